set_option maxRecDepth 100000 in
theorem B_X10_draw_0 {G : GG} {d : Nat} {k n : Nat} {w x1 : Int} {M : MM} {Q : PV → MM → Prop} (hd : 1 ≤ d) (hw : w = 59 ∨ w = 63) (hS : Sh M) (h : inR (((rd M w 3) * 1103) + 12345) ∧ ∀ M2, M2 = wr M w 3 (Int.tmod (((rd M w 3) * 1103) + 12345) 1000003) → Sh M2 → inR x1 ∧ ((x1 ≤ 0 → Q (vI 0) M2) ∧ (0 < x1 → inR (rd M2 w 3) ∧ x1 ≠ 0 ∧ Q (vI (Int.tmod (rd M2 w 3) x1)) M2))) : X G Y_X10_draw d k n 0 [vA w, vI x1] [] M Q := by
  have hd1 : 1 ≤ d := by omega
  refine x_aload_n (dA D_X10_draw 0 rfl) rfl ?_
  refine x_aload_n (dA D_X10_draw 1 rfl) rfl ?_
  refine x_get (v := vI (rd M w 3)) (dA D_X10_draw 2 rfl) fw_RX10_9 (sOw_0 hw hS) rfl ?_
  refine x_sipush (dA D_X10_draw 3 rfl) (by decide) (by decide) ?_
  refine x_imul (dA D_X10_draw 4 rfl) ?_
  refine x_sipush (dA D_X10_draw 5 rfl) (by decide) (by decide) ?_
  refine x_iadd (dA D_X10_draw 6 rfl) ?_
  refine x_ldc (a := 1000003) (dA D_X10_draw 7 rfl) ki_RX10_111 (by decide) ?_
  obtain ⟨h1, h⟩ := h
  refine x_irem (dA D_X10_draw 8 rfl) h1 ⟨by decide, by decide⟩ (by decide) ?_
  refine x_put (x := Int.tmod (((rd M w 3) * 1103) + 12345) 1000003) (dA D_X10_draw 9 rfl) fw_RX10_9 (fun _ _ hc => by cases hc; exact Or.inl rfl) (sOw_0 hw hS) rfl rfl rfl ?_
  refine x_nmM (fun M2 eM2 => ?_)
  have hM2 : Sh M2 := eM2 ▸ (sWw_0_3 hw hS)
  have h := h M2 eM2 hM2
  refine x_iload_n (dA D_X10_draw 10 rfl) rfl ?_
  obtain ⟨h3, h⟩ := h
  refine x_if_leP (tgt := 32) (dA D_X10_draw 11 rfl) (by decide) h3 ⟨fun c => ?_, fun c => ?_⟩
  · have h := h.1 c
    refine x_iconst (dA D_X10_draw 17 rfl) ?_
    exact x_ireturn (dA D_X10_draw 18 rfl) rfl h
  · have h := h.2 c
    refine x_aload_n (dA D_X10_draw 12 rfl) rfl ?_
    refine x_get (v := vI (rd M2 w 3)) (dA D_X10_draw 13 rfl) fw_RX10_9 (sOw_0 hw hM2) rfl ?_
    refine x_iload_n (dA D_X10_draw 14 rfl) rfl ?_
    obtain ⟨h4, h⟩ := h
    obtain ⟨h5, h⟩ := h
    refine x_irem (dA D_X10_draw 15 rfl) h4 h3 h5 ?_
    refine x_goto (tgt := 33) (dA D_X10_draw 16 rfl) (by decide) ?_
    exact x_ireturn (dA D_X10_draw 18 rfl) rfl h
theorem C_X10_draw {G : GG} {d : Nat} {w x1 : Int} {M : MM} {Q : PV → MM → Prop} (h : X G Y_X10_draw d 0 0 0 [vA w, vI x1] [] M Q) : C G Y_X10_draw d 0 0 [vA w, vI x1] M Q := X.entry (by decide) (Nat.le_of_ble_eq_true rfl) rfl rfl rfl h
set_option maxRecDepth 100000 in
theorem B_X10_staying_0 {G : GG} {d : Nat} {k n : Nat} {w x1 x2 : Int} {M : MM} {Q : PV → MM → Prop} (hd : 1 ≤ d) (hw : w = 59 ∨ w = 63) (hS : Sh M) (h : X G Y_X10_staying d k n 5 [vA w, vI x1, vI x2, vI 0, vI 0] [] M Q) : X G Y_X10_staying d k n 0 [vA w, vI x1, vI x2, vU, vU] [] M Q := by
  have hd1 : 1 ≤ d := by omega
  refine x_iconst (dA D_X10_staying 0 rfl) ?_
  refine x_istore_n (xs' := [vA w, vI x1, vI x2, vI 0, vU]) (dA D_X10_staying 1 rfl) (by decide) rfl ?_
  refine x_iconst (dA D_X10_staying 2 rfl) ?_
  refine x_istore (xs' := [vA w, vI x1, vI x2, vI 0, vI 0]) (dA D_X10_staying 3 rfl) (by decide) rfl ?_
  exact h
theorem C_X10_staying {G : GG} {d : Nat} {w x1 x2 : Int} {M : MM} {Q : PV → MM → Prop} (h : X G Y_X10_staying d 0 0 0 [vA w, vI x1, vI x2, vU, vU] [] M Q) : C G Y_X10_staying d 0 0 [vA w, vI x1, vI x2] M Q := X.entry (by decide) (Nat.le_of_ble_eq_true rfl) rfl rfl rfl h
set_option maxRecDepth 100000 in
theorem B_X10_staying_5 {G : GG} {d : Nat} {k n : Nat} {w x1 x2 x3 x4 : Int} {M : MM} {Q : PV → MM → Prop} (hd : 2 ≤ d) (hw : w = 59 ∨ w = 63) (hS : Sh M) (h : inR x4 ∧ inR x1 ∧ ((x1 ≤ x4 → Q (vI x3) M) ∧ (x4 < x1 → C G Y_X10_draw (d - 1) 0 0 [vA w, vI 100] M (rI (fun r4 M3 => Sh M3 ∧ inR r4 ∧ inR x2 ∧ ((x2 ≤ r4 → X G Y_X10_staying d k n 5 [vA w, vI x1, vI x2, vI x3, vI (x4 + 1)] [] M3 Q) ∧ (r4 < x2 → X G Y_X10_staying d k n 5 [vA w, vI x1, vI x2, vI (x3 + 1), vI (x4 + 1)] [] M3 Q))))))) : X G Y_X10_staying d k n 5 [vA w, vI x1, vI x2, vI x3, vI x4] [] M Q := by
  have hd1 : 1 ≤ d := by omega
  refine x_iload (dA D_X10_staying 4 rfl) rfl ?_
  refine x_iload_n (dA D_X10_staying 5 rfl) rfl ?_
  obtain ⟨h1, h⟩ := h
  obtain ⟨h2, h⟩ := h
  refine x_icmp_geP (tgt := 30) (dA D_X10_staying 6 rfl) (by decide) h1 h2 ⟨fun c => ?_, fun c => ?_⟩
  · have h := h.1 c
    refine x_iload_n (dA D_X10_staying 15 rfl) rfl ?_
    exact x_ireturn (dA D_X10_staying 16 rfl) rfl h
  · have h := h.2 c
    refine x_aload_n (dA D_X10_staying 7 rfl) rfl ?_
    refine x_bipush (dA D_X10_staying 8 rfl) (by decide) (by decide) ?_
    refine x_callV 9 [vI 100] [] (dA D_X10_staying 9 rfl) cw_RX10_85 rfl rfl (Nat.le_of_ble_eq_true rfl) (by decide) rfl hd1 (zk k) (zk n) (sOw_0 hw hS) h (kI (fun r4 M3 h => ?_))
    obtain ⟨hM3, h⟩ := h
    refine x_iload_n (dA D_X10_staying 10 rfl) rfl ?_
    obtain ⟨h5, h⟩ := h
    obtain ⟨h6, h⟩ := h
    refine x_icmp_geP (tgt := 24) (dA D_X10_staying 11 rfl) (by decide) h5 h6 ⟨fun c => ?_, fun c => ?_⟩
    · have h := h.1 c
      refine x_iinc (xs' := [vA w, vI x1, vI x2, vI x3, vI (x4 + 1)]) (dA D_X10_staying 13 rfl) rfl (by decide) rfl ?_
      refine x_goto (tgt := 5) (dA D_X10_staying 14 rfl) (by decide) ?_
      exact h
    · have h := h.2 c
      refine x_iinc (xs' := [vA w, vI x1, vI x2, vI (x3 + 1), vI x4]) (dA D_X10_staying 12 rfl) rfl (by decide) rfl ?_
      refine x_iinc (xs' := [vA w, vI x1, vI x2, vI (x3 + 1), vI (x4 + 1)]) (dA D_X10_staying 13 rfl) rfl (by decide) rfl ?_
      refine x_goto (tgt := 5) (dA D_X10_staying 14 rfl) (by decide) ?_
      exact h
set_option maxRecDepth 100000 in
theorem B_X10_plays_0 {G : GG} {d : Nat} {k n : Nat} {w x1 x2 x3 : Int} {M : MM} {Q : PV → MM → Prop} (hd : 1 ≤ d) (hw : w = 59 ∨ w = 63) (hS : Sh M) (h : ∀ M1, M1 = wr M w 7 0 → Sh M1 → ∀ M2, M2 = wr M1 w 8 0 → Sh M2 → ∀ M3, M3 = wr M2 w 9 0 → Sh M3 → X G Y_X10_plays d k n 30 [vA w, vI x1, vI x2, vI x3, vI 0, vI (-1), vI x2, vI x3, vI 0, vU, vU] [] M3 Q) : X G Y_X10_plays d k n 0 [vA w, vI x1, vI x2, vI x3, vU, vU, vU, vU, vU, vU, vU] [] M Q := by
  have hd1 : 1 ≤ d := by omega
  refine x_aload_n (dA D_X10_plays 0 rfl) rfl ?_
  refine x_iconst (dA D_X10_plays 1 rfl) ?_
  refine x_put (x := 0) (dA D_X10_plays 2 rfl) fw_RX10_25 (fun _ _ hc => by cases hc; exact Or.inl rfl) (sOw_0 hw hS) rfl rfl rfl ?_
  refine x_nmM (fun M1 eM1 => ?_)
  have hM1 : Sh M1 := eM1 ▸ (sWw_0_7 hw hS)
  have h := h M1 eM1 hM1
  refine x_aload_n (dA D_X10_plays 3 rfl) rfl ?_
  refine x_iconst (dA D_X10_plays 4 rfl) ?_
  refine x_put (x := 0) (dA D_X10_plays 5 rfl) fw_RX10_28 (fun _ _ hc => by cases hc; exact Or.inl rfl) (sOw_0 hw hM1) rfl rfl rfl ?_
  refine x_nmM (fun M2 eM2 => ?_)
  have hM2 : Sh M2 := eM2 ▸ (sWw_0_8 hw hM1)
  have h := h M2 eM2 hM2
  refine x_aload_n (dA D_X10_plays 6 rfl) rfl ?_
  refine x_iconst (dA D_X10_plays 7 rfl) ?_
  refine x_put (x := 0) (dA D_X10_plays 8 rfl) fw_RX10_31 (fun _ _ hc => by cases hc; exact Or.inl rfl) (sOw_0 hw hM2) rfl rfl rfl ?_
  refine x_nmM (fun M3 eM3 => ?_)
  have hM3 : Sh M3 := eM3 ▸ (sWw_0_9 hw hM2)
  have h := h M3 eM3 hM3
  refine x_iconst (dA D_X10_plays 9 rfl) ?_
  refine x_istore (xs' := [vA w, vI x1, vI x2, vI x3, vI 0, vU, vU, vU, vU, vU, vU]) (dA D_X10_plays 10 rfl) (by decide) rfl ?_
  refine x_iconst (dA D_X10_plays 11 rfl) ?_
  refine x_istore (xs' := [vA w, vI x1, vI x2, vI x3, vI 0, vI (-1), vU, vU, vU, vU, vU]) (dA D_X10_plays 12 rfl) (by decide) rfl ?_
  refine x_iload_n (dA D_X10_plays 13 rfl) rfl ?_
  refine x_istore (xs' := [vA w, vI x1, vI x2, vI x3, vI 0, vI (-1), vI x2, vU, vU, vU, vU]) (dA D_X10_plays 14 rfl) (by decide) rfl ?_
  refine x_iload_n (dA D_X10_plays 15 rfl) rfl ?_
  refine x_istore (xs' := [vA w, vI x1, vI x2, vI x3, vI 0, vI (-1), vI x2, vI x3, vU, vU, vU]) (dA D_X10_plays 16 rfl) (by decide) rfl ?_
  refine x_iconst (dA D_X10_plays 17 rfl) ?_
  refine x_istore (xs' := [vA w, vI x1, vI x2, vI x3, vI 0, vI (-1), vI x2, vI x3, vI 0, vU, vU]) (dA D_X10_plays 18 rfl) (by decide) rfl ?_
  exact h
theorem C_X10_plays {G : GG} {d : Nat} {w x1 x2 x3 : Int} {M : MM} {Q : PV → MM → Prop} (h : X G Y_X10_plays d 0 0 0 [vA w, vI x1, vI x2, vI x3, vU, vU, vU, vU, vU, vU, vU] [] M Q) : C G Y_X10_plays d 0 0 [vA w, vI x1, vI x2, vI x3] M Q := X.entry (by decide) (Nat.le_of_ble_eq_true rfl) rfl rfl rfl h
set_option maxRecDepth 100000 in
theorem B_X10_plays_30 {G : GG} {d : Nat} {k n : Nat} {w x1 x2 x3 x4 x5 x6 x7 x8 : Int} {r : Int → Int} {sm : Int → LSm} {M : MM} {Q : PV → MM → Prop} (hd : 7 ≤ d) (hw : w = 59 ∨ w = 63) (hS : Sh M) (h : inR x8 ∧ inR (x6 + x7) ∧ ((((5 ≤ x8) ∨ ((x6 + x7) ≤ 0)) → Q vU M) ∧ (¬ ((5 ≤ x8) ∨ ((x6 + x7) ≤ 0)) → C G Y_X3_choose (d - 1) 0 0 [vA 30, vI x1, vI x4, vI x5, vI x6, vI x7] M (rI (fun r17 M16 => Sh M16 ∧ inR r17 ∧ ((r17 ≠ (-1) → 0 ≤ x8 ∧ x8 < 5 ∧ ∀ M21, M21 = wr M16 (w + 1) x8 r17 → Sh M21 → ∀ M22, M22 = wr M21 (w + 2) x8 x6 → Sh M22 → ∀ M23, M23 = wr M22 (w + 3) x8 x7 → Sh M23 → ∀ M24, M24 = wr M23 w 7 ((rd M23 w 7) + 1) → Sh M24 → 0 ≤ r17 ∧ r17 < 5 ∧ inR (rd M24 4 r17) ∧ ((¬ ((rd M24 4 r17) = 1) → CIn M24 r sm ∧ stpOk x4 x5 r17 x6 x7 ∧ ∀ r31 M30, (Fr KTd M24 M30 ∧ CIn M30 r sm ∧ r31 = tolV r sm x4 x5 r17 x6 x7) → Sh M30 → C G Y_X10_staying (d - 1) 0 0 [vA w, vI x6, vI (iAnd (if (0 : Int) ≠ 0 then (iShr r31 8) else r31) 127)] M30 (rI (fun r34 M33 => Sh M33 ∧ C G Y_X10_staying (d - 1) 0 0 [vA w, vI x7, vI (iAnd (if (1 : Int) ≠ 0 then (iShr r31 8) else r31) 127)] M33 (rI (fun r36 M35 => Sh M35 ∧ ∀ v37, v37 = iOr x4 (iShl 1 r17) → X G Y_X10_plays d k n 30 [vA w, vI x1, vI x2, vI x3, vI v37, vI r17, vI r34, vI r36, vI (x8 + 1), vU, vU] [] M35 Q))))) ∧ ((rd M24 4 r17) = 1 → ∀ M38, M38 = wr M24 w 8 x6 → Sh M38 → ∀ M39, M39 = wr M38 w 9 x7 → Sh M39 → Q vU M39))) ∧ (r17 = (-1) → Q vU M16))))))) : X G Y_X10_plays d k n 30 [vA w, vI x1, vI x2, vI x3, vI x4, vI x5, vI x6, vI x7, vI x8, vU, vU] [] M Q := by
  have hd1 : 1 ≤ d := by omega
  refine x_iload (dA D_X10_plays 19 rfl) rfl ?_
  refine x_iconst (dA D_X10_plays 20 rfl) ?_
  obtain ⟨h2, h⟩ := h
  obtain ⟨h7, h⟩ := h
  have hA : ((5 ≤ x8) ∨ ((x6 + x7) ≤ 0)) → X G Y_X10_plays d k n 197 [vA w, vI x1, vI x2, vI x3, vI x4, vI x5, vI x6, vI x7, vI x8, vU, vU] [] M Q := by
    intro c40
    have h := h.1 c40
    exact x_return (dA D_X10_plays 105 rfl) rfl h
  have hB : ¬ ((5 ≤ x8) ∨ ((x6 + x7) ≤ 0)) → X G Y_X10_plays d k n 44 [vA w, vI x1, vI x2, vI x3, vI x4, vI x5, vI x6, vI x7, vI x8, vU, vU] [] M Q := by
    intro c40
    have h := h.2 c40
    refine x_aload_n (dA D_X10_plays 26 rfl) rfl ?_
    refine x_get (v := vA 30) (dA D_X10_plays 27 rfl) fw_RX10_51 (sOw_0 hw hS) (congrArg (rfV G) (sRw_2 hw hS)) ?_
    refine x_iload_n (dA D_X10_plays 28 rfl) rfl ?_
    refine x_iload (dA D_X10_plays 29 rfl) rfl ?_
    refine x_iload (dA D_X10_plays 30 rfl) rfl ?_
    refine x_iload (dA D_X10_plays 31 rfl) rfl ?_
    refine x_iload (dA D_X10_plays 32 rfl) rfl ?_
    refine x_callV 2 [vI x1, vI x4, vI x5, vI x6, vI x7] [] (dA D_X10_plays 33 rfl) cw_RX10_55 rfl rfl (Nat.le_of_ble_eq_true rfl) (by decide) rfl hd1 (zk k) (zk n) (sO_30 hS) h (kI (fun r17 M16 h => ?_))
    obtain ⟨hM16, h⟩ := h
    refine x_istore (xs' := [vA w, vI x1, vI x2, vI x3, vI x4, vI x5, vI x6, vI x7, vI x8, vI r17, vU]) (dA D_X10_plays 34 rfl) (by decide) rfl ?_
    refine x_iload (dA D_X10_plays 35 rfl) rfl ?_
    refine x_iconst (dA D_X10_plays 36 rfl) ?_
    obtain ⟨h18, h⟩ := h
    refine x_icmp_neP (tgt := 69) (dA D_X10_plays 37 rfl) (by decide) h18 ⟨by decide, by decide⟩ ⟨fun c => ?_, fun c => ?_⟩
    · have h := h.1 c
      refine x_aload_n (dA D_X10_plays 39 rfl) rfl ?_
      refine x_get (v := vA (w + 1)) (dA D_X10_plays 40 rfl) fw_RX10_15 (sOw_0 hw hM16) (congrArg (rfV G) (sRw_4 hw hM16)) ?_
      refine x_iload (dA D_X10_plays 41 rfl) rfl ?_
      refine x_iload (dA D_X10_plays 42 rfl) rfl ?_
      obtain ⟨h19, h⟩ := h
      obtain ⟨h20, h⟩ := h
      refine x_iast (dA D_X10_plays 43 rfl) (sAw_1 hw hM16 h19 h20) ?_
      refine x_nmM (fun M21 eM21 => ?_)
      have hM21 : Sh M21 := eM21 ▸ (sWw_1 hw hM16)
      have h := h M21 eM21 hM21
      refine x_aload_n (dA D_X10_plays 44 rfl) rfl ?_
      refine x_get (v := vA (w + 2)) (dA D_X10_plays 45 rfl) fw_RX10_19 (sOw_0 hw hM21) (congrArg (rfV G) (sRw_5 hw hM21)) ?_
      refine x_iload (dA D_X10_plays 46 rfl) rfl ?_
      refine x_iload (dA D_X10_plays 47 rfl) rfl ?_
      refine x_iast (dA D_X10_plays 48 rfl) (sAw_2 hw hM21 h19 h20) ?_
      refine x_nmM (fun M22 eM22 => ?_)
      have hM22 : Sh M22 := eM22 ▸ (sWw_2 hw hM21)
      have h := h M22 eM22 hM22
      refine x_aload_n (dA D_X10_plays 49 rfl) rfl ?_
      refine x_get (v := vA (w + 3)) (dA D_X10_plays 50 rfl) fw_RX10_22 (sOw_0 hw hM22) (congrArg (rfV G) (sRw_6 hw hM22)) ?_
      refine x_iload (dA D_X10_plays 51 rfl) rfl ?_
      refine x_iload (dA D_X10_plays 52 rfl) rfl ?_
      refine x_iast (dA D_X10_plays 53 rfl) (sAw_3 hw hM22 h19 h20) ?_
      refine x_nmM (fun M23 eM23 => ?_)
      have hM23 : Sh M23 := eM23 ▸ (sWw_3 hw hM22)
      have h := h M23 eM23 hM23
      refine x_aload_n (dA D_X10_plays 54 rfl) rfl ?_
      refine x_dup (dA D_X10_plays 55 rfl) rfl ?_
      refine x_get (v := vI (rd M23 w 7)) (dA D_X10_plays 56 rfl) fw_RX10_25 (sOw_0 hw hM23) rfl ?_
      refine x_iconst (dA D_X10_plays 57 rfl) ?_
      refine x_iadd (dA D_X10_plays 58 rfl) ?_
      refine x_put (x := (rd M23 w 7) + 1) (dA D_X10_plays 59 rfl) fw_RX10_25 (fun _ _ hc => by cases hc; exact Or.inl rfl) (sOw_0 hw hM23) rfl rfl rfl ?_
      refine x_nmM (fun M24 eM24 => ?_)
      have hM24 : Sh M24 := eM24 ▸ (sWw_0_7 hw hM23)
      have h := h M24 eM24 hM24
      refine x_aload_n (dA D_X10_plays 60 rfl) rfl ?_
      refine x_get (v := vA 1) (dA D_X10_plays 61 rfl) fw_RX10_43 (sOw_0 hw hM24) (congrArg (rfV G) (sRw_0 hw hM24)) ?_
      refine x_iload (dA D_X10_plays 62 rfl) rfl ?_
      obtain ⟨h25, h⟩ := h
      obtain ⟨h26, h⟩ := h
      obtain ⟨h27, h⟩ := h
      refine x_callV 3 [vI r17] [] (dA D_X10_plays 63 rfl) cw_RX10_61 rfl rfl (Nat.le_of_ble_eq_true rfl) (by decide) rfl hd1 (zk k) (zk n) (sO_1 hM24) (S_X4_isEnd hM24 h25 h26 h27 (by omega) ?_) (kI (fun _ _ h => h))
      show X G Y_X10_plays d k n 115 [vA w, vI x1, vI x2, vI x3, vI x4, vI x5, vI x6, vI x7, vI x8, vI r17, vU] [vI (if (rd M24 4 r17) = 1 then 1 else 0)] M24 Q
      refine x_if_eqB (tgt := 131) (dA D_X10_plays 64 rfl) (by decide) ⟨fun c => ?_, fun c => ?_⟩
      · have h := h.1 c
        refine x_aload_n (dA D_X10_plays 72 rfl) rfl ?_
        refine x_get (v := vA 25) (dA D_X10_plays 73 rfl) fw_RX10_47 (sOw_0 hw hM24) (congrArg (rfV G) (sRw_1 hw hM24)) ?_
        refine x_iload (dA D_X10_plays 74 rfl) rfl ?_
        refine x_iload (dA D_X10_plays 75 rfl) rfl ?_
        refine x_iload (dA D_X10_plays 76 rfl) rfl ?_
        refine x_iload (dA D_X10_plays 77 rfl) rfl ?_
        refine x_iload (dA D_X10_plays 78 rfl) rfl ?_
        obtain ⟨h28, h⟩ := h
        obtain ⟨h29, h⟩ := h
        refine x_callV 7 [vI x4, vI x5, vI r17, vI x6, vI x7] [] (dA D_X10_plays 79 rfl) cw_RX10_67 rfl rfl (Nat.le_of_ble_eq_true rfl) (by decide) rfl hd1 (zk k) (zk n) (sO_25 hM24) (T_told hM24 h28 h29 (by omega) (fun r31 M30 p32 hM30 => ?_)) (kI (fun _ _ h => h))
        have h := h r31 M30 p32 hM30
        show X G Y_X10_plays d k n 148 [vA w, vI x1, vI x2, vI x3, vI x4, vI x5, vI x6, vI x7, vI x8, vI r17, vU] [vI r31] M30 Q
        refine x_istore (xs' := [vA w, vI x1, vI x2, vI x3, vI x4, vI x5, vI x6, vI x7, vI x8, vI r17, vI r31]) (dA D_X10_plays 80 rfl) (by decide) rfl ?_
        refine x_aload_n (dA D_X10_plays 81 rfl) rfl ?_
        refine x_iload (dA D_X10_plays 82 rfl) rfl ?_
        refine x_iload (dA D_X10_plays 83 rfl) rfl ?_
        refine x_iconst (dA D_X10_plays 84 rfl) ?_
        refine x_callS [vI r31, vI 0] [vI x6, vA w] (dA D_X10_plays 85 rfl) cw_RX10_72 rfl rfl (Nat.le_of_ble_eq_true rfl) hd1 (zk k) (zk n) (S_X8_chanceOf ⟨by decide, by decide⟩ (by omega) ?_) (kI (fun _ _ h => h))
        show X G Y_X10_plays d k n 159 [vA w, vI x1, vI x2, vI x3, vI x4, vI x5, vI x6, vI x7, vI x8, vI r17, vI r31] [vI (iAnd (if (0 : Int) ≠ 0 then (iShr r31 8) else r31) 127), vI x6, vA w] M30 Q
        refine x_callV 9 [vI x6, vI (iAnd (if (0 : Int) ≠ 0 then (iShr r31 8) else r31) 127)] [] (dA D_X10_plays 86 rfl) cw_RX10_76 rfl rfl (Nat.le_of_ble_eq_true rfl) (by decide) rfl hd1 (zk k) (zk n) (sOw_0 hw hM30) h (kI (fun r34 M33 h => ?_))
        obtain ⟨hM33, h⟩ := h
        refine x_istore (xs' := [vA w, vI x1, vI x2, vI x3, vI x4, vI x5, vI r34, vI x7, vI x8, vI r17, vI r31]) (dA D_X10_plays 87 rfl) (by decide) rfl ?_
        refine x_aload_n (dA D_X10_plays 88 rfl) rfl ?_
        refine x_iload (dA D_X10_plays 89 rfl) rfl ?_
        refine x_iload (dA D_X10_plays 90 rfl) rfl ?_
        refine x_iconst (dA D_X10_plays 91 rfl) ?_
        refine x_callS [vI r31, vI 1] [vI x7, vA w] (dA D_X10_plays 92 rfl) cw_RX10_72 rfl rfl (Nat.le_of_ble_eq_true rfl) hd1 (zk k) (zk n) (S_X8_chanceOf ⟨by decide, by decide⟩ (by omega) ?_) (kI (fun _ _ h => h))
        show X G Y_X10_plays d k n 173 [vA w, vI x1, vI x2, vI x3, vI x4, vI x5, vI r34, vI x7, vI x8, vI r17, vI r31] [vI (iAnd (if (1 : Int) ≠ 0 then (iShr r31 8) else r31) 127), vI x7, vA w] M33 Q
        refine x_callV 9 [vI x7, vI (iAnd (if (1 : Int) ≠ 0 then (iShr r31 8) else r31) 127)] [] (dA D_X10_plays 93 rfl) cw_RX10_76 rfl rfl (Nat.le_of_ble_eq_true rfl) (by decide) rfl hd1 (zk k) (zk n) (sOw_0 hw hM33) h (kI (fun r36 M35 h => ?_))
        obtain ⟨hM35, h⟩ := h
        refine x_istore (xs' := [vA w, vI x1, vI x2, vI x3, vI x4, vI x5, vI r34, vI r36, vI x8, vI r17, vI r31]) (dA D_X10_plays 94 rfl) (by decide) rfl ?_
        refine x_iload (dA D_X10_plays 95 rfl) rfl ?_
        refine x_iconst (dA D_X10_plays 96 rfl) ?_
        refine x_iload (dA D_X10_plays 97 rfl) rfl ?_
        refine x_ishl (dA D_X10_plays 98 rfl) ?_
        refine x_ior (dA D_X10_plays 99 rfl) ?_
        refine x_nmI (fun v37 ev37 => ?_)
        have h := h v37 ev37
        refine x_istore (xs' := [vA w, vI x1, vI x2, vI x3, vI v37, vI x5, vI r34, vI r36, vI x8, vI r17, vI r31]) (dA D_X10_plays 100 rfl) (by decide) rfl ?_
        refine x_iload (dA D_X10_plays 101 rfl) rfl ?_
        refine x_istore (xs' := [vA w, vI x1, vI x2, vI x3, vI v37, vI r17, vI r34, vI r36, vI x8, vI r17, vI r31]) (dA D_X10_plays 102 rfl) (by decide) rfl ?_
        refine x_iinc (xs' := [vA w, vI x1, vI x2, vI x3, vI v37, vI r17, vI r34, vI r36, vI (x8 + 1), vI r17, vI r31]) (dA D_X10_plays 103 rfl) rfl (by decide) rfl ?_
        refine x_goto (tgt := 30) (dA D_X10_plays 104 rfl) (by decide) ?_
        refine X.weak (xs' := [vA w, vI x1, vI x2, vI x3, vI v37, vI r17, vI r34, vI r36, vI (x8 + 1), vU, vU]) ⟨Or.inl rfl, Or.inl rfl, Or.inl rfl, Or.inl rfl, Or.inl rfl, Or.inl rfl, Or.inl rfl, Or.inl rfl, Or.inl rfl, Or.inr rfl, Or.inr rfl, trivial⟩ ?_
        exact h
      · have h := h.2 c
        refine x_aload_n (dA D_X10_plays 65 rfl) rfl ?_
        refine x_iload (dA D_X10_plays 66 rfl) rfl ?_
        refine x_put (x := x6) (dA D_X10_plays 67 rfl) fw_RX10_28 (fun _ _ hc => by cases hc; exact Or.inl rfl) (sOw_0 hw hM24) rfl rfl rfl ?_
        refine x_nmM (fun M38 eM38 => ?_)
        have hM38 : Sh M38 := eM38 ▸ (sWw_0_8 hw hM24)
        have h := h M38 eM38 hM38
        refine x_aload_n (dA D_X10_plays 68 rfl) rfl ?_
        refine x_iload (dA D_X10_plays 69 rfl) rfl ?_
        refine x_put (x := x7) (dA D_X10_plays 70 rfl) fw_RX10_31 (fun _ _ hc => by cases hc; exact Or.inl rfl) (sOw_0 hw hM38) rfl rfl rfl ?_
        refine x_nmM (fun M39 eM39 => ?_)
        have hM39 : Sh M39 := eM39 ▸ (sWw_0_9 hw hM38)
        have h := h M39 eM39 hM39
        exact x_return (dA D_X10_plays 71 rfl) rfl h
    · have h := h.2 c
      exact x_return (dA D_X10_plays 38 rfl) rfl h
  refine x_icmp_geP (tgt := 197) (dA D_X10_plays 21 rfl) (by decide) h2 ⟨by decide, by decide⟩ ⟨fun c1 => ?_, fun c1 => ?_⟩
  · exact hA (by first | omega | grind)
  · refine x_iload (dA D_X10_plays 22 rfl) rfl ?_
    refine x_iload (dA D_X10_plays 23 rfl) rfl ?_
    refine x_iadd (dA D_X10_plays 24 rfl) ?_
    refine x_if_leP (tgt := 197) (dA D_X10_plays 25 rfl) (by decide) h7 ⟨fun c6 => ?_, fun c6 => ?_⟩
    · exact hA (by first | omega | grind)
    · exact hB (by first | omega | grind)
set_option maxRecDepth 100000 in
theorem B_X10_playsNights_0 {G : GG} {d : Nat} {k n : Nat} {w x1 x2 : Int} {M : MM} {Q : PV → MM → Prop} (hd : 1 ≤ d) (hw : w = 59 ∨ w = 63) (hS : Sh M) (h : ∀ v1, v1 = rd M 5 0 → ∀ v2, v2 = rd M 5 1 → ∀ M3, M3 = wr M w 10 0 → Sh M3 → ∀ M4, M4 = wr M3 w 11 0 → Sh M4 → ∀ M5, M5 = wr M4 w 12 0 → Sh M5 → X G Y_X10_playsNights d k n 39 [vA w, vI x1, vI x2, vI v1, vI v2, vI 0, vU] [] M5 Q) : X G Y_X10_playsNights d k n 0 [vA w, vI x1, vI x2, vU, vU, vU, vU] [] M Q := by
  have hd1 : 1 ≤ d := by omega
  refine x_aload_n (dA D_X10_playsNights 0 rfl) rfl ?_
  refine x_get (v := vA 1) (dA D_X10_playsNights 1 rfl) fw_RX10_43 (sOw_0 hw hS) (congrArg (rfV G) (sRw_0 hw hS)) ?_
  refine x_get (v := vA 5) (dA D_X10_playsNights 2 rfl) fw_RX10_79 (sO_1 hS) (congrArg (rfV G) (sR_1_4 hS)) ?_
  refine x_iconst (dA D_X10_playsNights 3 rfl) ?_
  refine x_iald (dA D_X10_playsNights 4 rfl) (sA_5 hS (by decide) (by decide)) ?_
  refine x_nmI (fun v1 ev1 => ?_)
  have h := h v1 ev1
  refine x_istore_n (xs' := [vA w, vI x1, vI x2, vI v1, vU, vU, vU]) (dA D_X10_playsNights 5 rfl) (by decide) rfl ?_
  refine x_aload_n (dA D_X10_playsNights 6 rfl) rfl ?_
  refine x_get (v := vA 1) (dA D_X10_playsNights 7 rfl) fw_RX10_43 (sOw_0 hw hS) (congrArg (rfV G) (sRw_0 hw hS)) ?_
  refine x_get (v := vA 5) (dA D_X10_playsNights 8 rfl) fw_RX10_79 (sO_1 hS) (congrArg (rfV G) (sR_1_4 hS)) ?_
  refine x_iconst (dA D_X10_playsNights 9 rfl) ?_
  refine x_iald (dA D_X10_playsNights 10 rfl) (sA_5 hS (by decide) (by decide)) ?_
  refine x_nmI (fun v2 ev2 => ?_)
  have h := h v2 ev2
  refine x_istore (xs' := [vA w, vI x1, vI x2, vI v1, vI v2, vU, vU]) (dA D_X10_playsNights 11 rfl) (by decide) rfl ?_
  refine x_aload_n (dA D_X10_playsNights 12 rfl) rfl ?_
  refine x_iconst (dA D_X10_playsNights 13 rfl) ?_
  refine x_put (x := 0) (dA D_X10_playsNights 14 rfl) fw_RX10_34 (fun _ _ hc => by cases hc; exact Or.inl rfl) (sOw_0 hw hS) rfl rfl rfl ?_
  refine x_nmM (fun M3 eM3 => ?_)
  have hM3 : Sh M3 := eM3 ▸ (sWw_0_10 hw hS)
  have h := h M3 eM3 hM3
  refine x_aload_n (dA D_X10_playsNights 15 rfl) rfl ?_
  refine x_iconst (dA D_X10_playsNights 16 rfl) ?_
  refine x_put (x := 0) (dA D_X10_playsNights 17 rfl) fw_RX10_37 (fun _ _ hc => by cases hc; exact Or.inl rfl) (sOw_0 hw hM3) rfl rfl rfl ?_
  refine x_nmM (fun M4 eM4 => ?_)
  have hM4 : Sh M4 := eM4 ▸ (sWw_0_11 hw hM3)
  have h := h M4 eM4 hM4
  refine x_aload_n (dA D_X10_playsNights 18 rfl) rfl ?_
  refine x_iconst (dA D_X10_playsNights 19 rfl) ?_
  refine x_put (x := 0) (dA D_X10_playsNights 20 rfl) fw_RX10_40 (fun _ _ hc => by cases hc; exact Or.inl rfl) (sOw_0 hw hM4) rfl rfl rfl ?_
  refine x_nmM (fun M5 eM5 => ?_)
  have hM5 : Sh M5 := eM5 ▸ (sWw_0_12 hw hM4)
  have h := h M5 eM5 hM5
  refine x_iconst (dA D_X10_playsNights 21 rfl) ?_
  refine x_istore (xs' := [vA w, vI x1, vI x2, vI v1, vI v2, vI 0, vU]) (dA D_X10_playsNights 22 rfl) (by decide) rfl ?_
  exact h
theorem C_X10_playsNights {G : GG} {d : Nat} {w x1 x2 : Int} {M : MM} {Q : PV → MM → Prop} (h : X G Y_X10_playsNights d 0 0 0 [vA w, vI x1, vI x2, vU, vU, vU, vU] [] M Q) : C G Y_X10_playsNights d 0 0 [vA w, vI x1, vI x2] M Q := X.entry (by decide) (Nat.le_of_ble_eq_true rfl) rfl rfl rfl h
set_option maxRecDepth 100000 in
theorem B_X10_playsNights_39 {G : GG} {d : Nat} {k n : Nat} {w x1 x2 x3 x4 x5 : Int} {M : MM} {Q : PV → MM → Prop} (hd : 2 ≤ d) (hw : w = 59 ∨ w = 63) (hS : Sh M) (h : inR x5 ∧ inR x1 ∧ ((x1 ≤ x5 → Q vU M) ∧ (x5 < x1 → ((x5 ≤ 0 → X G Y_X10_playsNights d k n 101 [vA w, vI x1, vI x2, vI x3, vI x4, vI x5, vU] [] M Q) ∧ (0 < x5 → C G Y_X10_draw (d - 1) 0 0 [vA w, vI ((rd M 7 0) + 1)] M (rI (fun r4 M3 => Sh M3 ∧ inR ((rd M w 8) + r4) ∧ ∀ v6, v6 = (if ((rd M w 8) + r4) < 5 then ((rd M w 8) + r4) else 5) → C G Y_X10_draw (d - 1) 0 0 [vA w, vI ((rd M3 7 1) + 1)] M3 (rI (fun r8 M7 => Sh M7 ∧ inR ((rd M3 w 9) + r8) ∧ ∀ v10, v10 = (if ((rd M3 w 9) + r8) < 5 then ((rd M3 w 9) + r8) else 5) → X G Y_X10_playsNights d k n 101 [vA w, vI x1, vI x2, vI v6, vI v10, vI x5, vU] [] M7 Q))))))))) : X G Y_X10_playsNights d k n 39 [vA w, vI x1, vI x2, vI x3, vI x4, vI x5, vU] [] M Q := by
  have hd1 : 1 ≤ d := by omega
  refine x_iload (dA D_X10_playsNights 23 rfl) rfl ?_
  refine x_iload_n (dA D_X10_playsNights 24 rfl) rfl ?_
  obtain ⟨h1, h⟩ := h
  obtain ⟨h2, h⟩ := h
  refine x_icmp_geP (tgt := 225) (dA D_X10_playsNights 25 rfl) (by decide) h1 h2 ⟨fun c => ?_, fun c => ?_⟩
  · have h := h.1 c
    exact x_return (dA D_X10_playsNights 126 rfl) rfl h
  · have h := h.2 c
    refine x_iload (dA D_X10_playsNights 26 rfl) rfl ?_
    refine x_if_leP (tgt := 101) (dA D_X10_playsNights 27 rfl) (by decide) h1 ⟨fun c => ?_, fun c => ?_⟩
    · have h := h.1 c
      exact h
    · have h := h.2 c
      refine x_iconst (dA D_X10_playsNights 28 rfl) ?_
      refine x_aload_n (dA D_X10_playsNights 29 rfl) rfl ?_
      refine x_get (v := vI (rd M w 8)) (dA D_X10_playsNights 30 rfl) fw_RX10_28 (sOw_0 hw hS) rfl ?_
      refine x_aload_n (dA D_X10_playsNights 31 rfl) rfl ?_
      refine x_aload_n (dA D_X10_playsNights 32 rfl) rfl ?_
      refine x_get (v := vA 1) (dA D_X10_playsNights 33 rfl) fw_RX10_43 (sOw_0 hw hS) (congrArg (rfV G) (sRw_0 hw hS)) ?_
      refine x_get (v := vA 7) (dA D_X10_playsNights 34 rfl) fw_RX10_82 (sO_1 hS) (congrArg (rfV G) (sR_1_6 hS)) ?_
      refine x_iconst (dA D_X10_playsNights 35 rfl) ?_
      refine x_iald (dA D_X10_playsNights 36 rfl) (sA_7 hS (by decide) (by decide)) ?_
      refine x_iconst (dA D_X10_playsNights 37 rfl) ?_
      refine x_iadd (dA D_X10_playsNights 38 rfl) ?_
      refine x_callV 9 [vI ((rd M 7 0) + 1)] [vI (rd M w 8), vI 5] (dA D_X10_playsNights 39 rfl) cw_RX10_85 rfl rfl (Nat.le_of_ble_eq_true rfl) (by decide) rfl hd1 (zk k) (zk n) (sOw_0 hw hS) h (kI (fun r4 M3 h => ?_))
      obtain ⟨hM3, h⟩ := h
      refine x_iadd (dA D_X10_playsNights 40 rfl) ?_
      obtain ⟨h5, h⟩ := h
      refine x_mminI [] (dA D_X10_playsNights 41 rfl) ml_RX10_89 (Nat.le_of_ble_eq_true rfl) hd1 ⟨by decide, by decide⟩ h5 ?_
      refine x_nmI (fun v6 ev6 => ?_)
      have h := h v6 ev6
      refine x_istore_n (xs' := [vA w, vI x1, vI x2, vI v6, vI x4, vI x5, vU]) (dA D_X10_playsNights 42 rfl) (by decide) rfl ?_
      refine x_iconst (dA D_X10_playsNights 43 rfl) ?_
      refine x_aload_n (dA D_X10_playsNights 44 rfl) rfl ?_
      refine x_get (v := vI (rd M3 w 9)) (dA D_X10_playsNights 45 rfl) fw_RX10_31 (sOw_0 hw hM3) rfl ?_
      refine x_aload_n (dA D_X10_playsNights 46 rfl) rfl ?_
      refine x_aload_n (dA D_X10_playsNights 47 rfl) rfl ?_
      refine x_get (v := vA 1) (dA D_X10_playsNights 48 rfl) fw_RX10_43 (sOw_0 hw hM3) (congrArg (rfV G) (sRw_0 hw hM3)) ?_
      refine x_get (v := vA 7) (dA D_X10_playsNights 49 rfl) fw_RX10_82 (sO_1 hM3) (congrArg (rfV G) (sR_1_6 hM3)) ?_
      refine x_iconst (dA D_X10_playsNights 50 rfl) ?_
      refine x_iald (dA D_X10_playsNights 51 rfl) (sA_7 hM3 (by decide) (by decide)) ?_
      refine x_iconst (dA D_X10_playsNights 52 rfl) ?_
      refine x_iadd (dA D_X10_playsNights 53 rfl) ?_
      refine x_callV 9 [vI ((rd M3 7 1) + 1)] [vI (rd M3 w 9), vI 5] (dA D_X10_playsNights 54 rfl) cw_RX10_85 rfl rfl (Nat.le_of_ble_eq_true rfl) (by decide) rfl hd1 (zk k) (zk n) (sOw_0 hw hM3) h (kI (fun r8 M7 h => ?_))
      obtain ⟨hM7, h⟩ := h
      refine x_iadd (dA D_X10_playsNights 55 rfl) ?_
      obtain ⟨h9, h⟩ := h
      refine x_mminI [] (dA D_X10_playsNights 56 rfl) ml_RX10_89 (Nat.le_of_ble_eq_true rfl) hd1 ⟨by decide, by decide⟩ h9 ?_
      refine x_nmI (fun v10 ev10 => ?_)
      have h := h v10 ev10
      refine x_istore (xs' := [vA w, vI x1, vI x2, vI v6, vI v10, vI x5, vU]) (dA D_X10_playsNights 57 rfl) (by decide) rfl ?_
      exact h
set_option maxRecDepth 100000 in
theorem B_X10_playsNights_101 {G : GG} {d : Nat} {k n : Nat} {w x1 x2 x3 x4 x5 : Int} {M : MM} {Q : PV → MM → Prop} (hd : 2 ≤ d) (hw : w = 59 ∨ w = 63) (hS : Sh M) (h : inR x2 ∧ ((x2 ≠ 2 → X G Y_X10_playsNights d k n 122 [vA w, vI x1, vI x2, vI x3, vI x4, vI x5, vU] [] M Q) ∧ (x2 = 2 → C G Y_X9_settle (d - 1) 0 0 [vA 32, vI 0, vI (-1), vI x3, vI x4, vI 0] M (rU (fun M2 => Sh M2 ∧ X G Y_X10_playsNights d k n 122 [vA w, vI x1, vI x2, vI x3, vI x4, vI x5, vU] [] M2 Q))))) : X G Y_X10_playsNights d k n 101 [vA w, vI x1, vI x2, vI x3, vI x4, vI x5, vU] [] M Q := by
  have hd1 : 1 ≤ d := by omega
  refine x_iload_n (dA D_X10_playsNights 58 rfl) rfl ?_
  refine x_iconst (dA D_X10_playsNights 59 rfl) ?_
  obtain ⟨h1, h⟩ := h
  refine x_icmp_neP (tgt := 122) (dA D_X10_playsNights 60 rfl) (by decide) h1 ⟨by decide, by decide⟩ ⟨fun c => ?_, fun c => ?_⟩
  · have h := h.1 c
    exact h
  · have h := h.2 c
    refine x_aload_n (dA D_X10_playsNights 61 rfl) rfl ?_
    refine x_get (v := vA 30) (dA D_X10_playsNights 62 rfl) fw_RX10_51 (sOw_0 hw hS) (congrArg (rfV G) (sRw_2 hw hS)) ?_
    refine x_get (v := vA 32) (dA D_X10_playsNights 63 rfl) fw_RX10_94 (sO_30 hS) (congrArg (rfV G) (sR_30_2 hS)) ?_
    refine x_iconst (dA D_X10_playsNights 64 rfl) ?_
    refine x_iconst (dA D_X10_playsNights 65 rfl) ?_
    refine x_iload_n (dA D_X10_playsNights 66 rfl) rfl ?_
    refine x_iload (dA D_X10_playsNights 67 rfl) rfl ?_
    refine x_iconst (dA D_X10_playsNights 68 rfl) ?_
    refine x_callVN 8 [vI 0, vI (-1), vI x3, vI x4, vI 0] [] (dA D_X10_playsNights 69 rfl) cw_RX10_98 rfl rfl (Nat.le_of_ble_eq_true rfl) (by decide) rfl hd1 (zk k) (zk n) (sO_32 hS) h (kU (fun M2 h => ?_))
    obtain ⟨hM2, h⟩ := h
    exact h
set_option maxRecDepth 100000 in
theorem B_X10_playsNights_122 {G : GG} {d : Nat} {k n : Nat} {w x1 x2 x3 x4 x5 : Int} {M : MM} {Q : PV → MM → Prop} (hd : 2 ≤ d) (hw : w = 59 ∨ w = 63) (hS : Sh M) (h : C G Y_X10_plays (d - 1) 0 0 [vA w, vI x2, vI x3, vI x4] M (rU (fun M1 => Sh M1 ∧ ∀ M2, M2 = wr M1 w 10 ((rd M1 w 10) + (x3 + x4)) → Sh M2 → ∀ M3, M3 = wr M2 w 11 ((rd M2 w 11) + ((rd M2 w 8) + (rd M2 w 9))) → Sh M3 → X G Y_X10_playsNights d k n 164 [vA w, vI x1, vI x2, vI x3, vI x4, vI x5, vI 0] [] M3 Q))) : X G Y_X10_playsNights d k n 122 [vA w, vI x1, vI x2, vI x3, vI x4, vI x5, vU] [] M Q := by
  have hd1 : 1 ≤ d := by omega
  refine x_aload_n (dA D_X10_playsNights 70 rfl) rfl ?_
  refine x_iload_n (dA D_X10_playsNights 71 rfl) rfl ?_
  refine x_iload_n (dA D_X10_playsNights 72 rfl) rfl ?_
  refine x_iload (dA D_X10_playsNights 73 rfl) rfl ?_
  refine x_callV 9 [vI x2, vI x3, vI x4] [] (dA D_X10_playsNights 74 rfl) cw_RX10_104 rfl rfl (Nat.le_of_ble_eq_true rfl) (by decide) rfl hd1 (zk k) (zk n) (sOw_0 hw hS) h (kU (fun M1 h => ?_))
  obtain ⟨hM1, h⟩ := h
  refine x_aload_n (dA D_X10_playsNights 75 rfl) rfl ?_
  refine x_dup (dA D_X10_playsNights 76 rfl) rfl ?_
  refine x_get (v := vI (rd M1 w 10)) (dA D_X10_playsNights 77 rfl) fw_RX10_34 (sOw_0 hw hM1) rfl ?_
  refine x_iload_n (dA D_X10_playsNights 78 rfl) rfl ?_
  refine x_iload (dA D_X10_playsNights 79 rfl) rfl ?_
  refine x_iadd (dA D_X10_playsNights 80 rfl) ?_
  refine x_iadd (dA D_X10_playsNights 81 rfl) ?_
  refine x_put (x := (rd M1 w 10) + (x3 + x4)) (dA D_X10_playsNights 82 rfl) fw_RX10_34 (fun _ _ hc => by cases hc; exact Or.inl rfl) (sOw_0 hw hM1) rfl rfl rfl ?_
  refine x_nmM (fun M2 eM2 => ?_)
  have hM2 : Sh M2 := eM2 ▸ (sWw_0_10 hw hM1)
  have h := h M2 eM2 hM2
  refine x_aload_n (dA D_X10_playsNights 83 rfl) rfl ?_
  refine x_dup (dA D_X10_playsNights 84 rfl) rfl ?_
  refine x_get (v := vI (rd M2 w 11)) (dA D_X10_playsNights 85 rfl) fw_RX10_37 (sOw_0 hw hM2) rfl ?_
  refine x_aload_n (dA D_X10_playsNights 86 rfl) rfl ?_
  refine x_get (v := vI (rd M2 w 8)) (dA D_X10_playsNights 87 rfl) fw_RX10_28 (sOw_0 hw hM2) rfl ?_
  refine x_aload_n (dA D_X10_playsNights 88 rfl) rfl ?_
  refine x_get (v := vI (rd M2 w 9)) (dA D_X10_playsNights 89 rfl) fw_RX10_31 (sOw_0 hw hM2) rfl ?_
  refine x_iadd (dA D_X10_playsNights 90 rfl) ?_
  refine x_iadd (dA D_X10_playsNights 91 rfl) ?_
  refine x_put (x := (rd M2 w 11) + ((rd M2 w 8) + (rd M2 w 9))) (dA D_X10_playsNights 92 rfl) fw_RX10_37 (fun _ _ hc => by cases hc; exact Or.inl rfl) (sOw_0 hw hM2) rfl rfl rfl ?_
  refine x_nmM (fun M3 eM3 => ?_)
  have hM3 : Sh M3 := eM3 ▸ (sWw_0_11 hw hM2)
  have h := h M3 eM3 hM3
  refine x_iconst (dA D_X10_playsNights 93 rfl) ?_
  refine x_istore (xs' := [vA w, vI x1, vI x2, vI x3, vI x4, vI x5, vI 0]) (dA D_X10_playsNights 94 rfl) (by decide) rfl ?_
  exact h
set_option maxRecDepth 100000 in
theorem B_X10_playsNights_164 {G : GG} {d : Nat} {k n : Nat} {w x1 x2 x3 x4 x5 x6 : Int} {M : MM} {Q : PV → MM → Prop} (hd : 1 ≤ d) (hw : w = 59 ∨ w = 63) (hS : Sh M) (h : inR x6 ∧ inR (rd M w 7) ∧ (((rd M w 7) ≤ x6 → X G Y_X10_playsNights d k n 39 [vA w, vI x1, vI x2, vI x3, vI x4, vI (x5 + 1), vU] [] M Q) ∧ (x6 < (rd M w 7) → 0 ≤ x6 ∧ x6 < 5 ∧ 0 ≤ (rd M (w + 1) x6) ∧ (rd M (w + 1) x6) < 5 ∧ ∀ M7, M7 = wr M w 12 ((rd M w 12) + ((rd M 2 (rd M (w + 1) x6)) * ((rd M (w + 2) x6) + (rd M (w + 3) x6)))) → Sh M7 → X G Y_X10_playsNights d k n 164 [vA w, vI x1, vI x2, vI x3, vI x4, vI x5, vI (x6 + 1)] [] M7 Q))) : X G Y_X10_playsNights d k n 164 [vA w, vI x1, vI x2, vI x3, vI x4, vI x5, vI x6] [] M Q := by
  have hd1 : 1 ≤ d := by omega
  refine x_iload (dA D_X10_playsNights 95 rfl) rfl ?_
  refine x_aload_n (dA D_X10_playsNights 96 rfl) rfl ?_
  refine x_get (v := vI (rd M w 7)) (dA D_X10_playsNights 97 rfl) fw_RX10_25 (sOw_0 hw hS) rfl ?_
  obtain ⟨h1, h⟩ := h
  obtain ⟨h2, h⟩ := h
  refine x_icmp_geP (tgt := 219) (dA D_X10_playsNights 98 rfl) (by decide) h1 h2 ⟨fun c => ?_, fun c => ?_⟩
  · have h := h.1 c
    refine x_iinc (xs' := [vA w, vI x1, vI x2, vI x3, vI x4, vI (x5 + 1), vI x6]) (dA D_X10_playsNights 124 rfl) rfl (by decide) rfl ?_
    refine x_goto (tgt := 39) (dA D_X10_playsNights 125 rfl) (by decide) ?_
    refine X.weak (xs' := [vA w, vI x1, vI x2, vI x3, vI x4, vI (x5 + 1), vU]) ⟨Or.inl rfl, Or.inl rfl, Or.inl rfl, Or.inl rfl, Or.inl rfl, Or.inl rfl, Or.inr rfl, trivial⟩ ?_
    exact h
  · have h := h.2 c
    refine x_aload_n (dA D_X10_playsNights 99 rfl) rfl ?_
    refine x_dup (dA D_X10_playsNights 100 rfl) rfl ?_
    refine x_get (v := vI (rd M w 12)) (dA D_X10_playsNights 101 rfl) fw_RX10_40 (sOw_0 hw hS) rfl ?_
    refine x_aload_n (dA D_X10_playsNights 102 rfl) rfl ?_
    refine x_get (v := vA 1) (dA D_X10_playsNights 103 rfl) fw_RX10_43 (sOw_0 hw hS) (congrArg (rfV G) (sRw_0 hw hS)) ?_
    refine x_get (v := vA 2) (dA D_X10_playsNights 104 rfl) fw_RX10_108 (sO_1 hS) (congrArg (rfV G) (sR_1_1 hS)) ?_
    refine x_aload_n (dA D_X10_playsNights 105 rfl) rfl ?_
    refine x_get (v := vA (w + 1)) (dA D_X10_playsNights 106 rfl) fw_RX10_15 (sOw_0 hw hS) (congrArg (rfV G) (sRw_4 hw hS)) ?_
    refine x_iload (dA D_X10_playsNights 107 rfl) rfl ?_
    obtain ⟨h3, h⟩ := h
    obtain ⟨h4, h⟩ := h
    refine x_iald (dA D_X10_playsNights 108 rfl) (sAw_1 hw hS h3 h4) ?_
    obtain ⟨h5, h⟩ := h
    obtain ⟨h6, h⟩ := h
    refine x_iald (dA D_X10_playsNights 109 rfl) (sA_2 hS h5 h6) ?_
    refine x_aload_n (dA D_X10_playsNights 110 rfl) rfl ?_
    refine x_get (v := vA (w + 2)) (dA D_X10_playsNights 111 rfl) fw_RX10_19 (sOw_0 hw hS) (congrArg (rfV G) (sRw_5 hw hS)) ?_
    refine x_iload (dA D_X10_playsNights 112 rfl) rfl ?_
    refine x_iald (dA D_X10_playsNights 113 rfl) (sAw_2 hw hS h3 h4) ?_
    refine x_aload_n (dA D_X10_playsNights 114 rfl) rfl ?_
    refine x_get (v := vA (w + 3)) (dA D_X10_playsNights 115 rfl) fw_RX10_22 (sOw_0 hw hS) (congrArg (rfV G) (sRw_6 hw hS)) ?_
    refine x_iload (dA D_X10_playsNights 116 rfl) rfl ?_
    refine x_iald (dA D_X10_playsNights 117 rfl) (sAw_3 hw hS h3 h4) ?_
    refine x_iadd (dA D_X10_playsNights 118 rfl) ?_
    refine x_imul (dA D_X10_playsNights 119 rfl) ?_
    refine x_iadd (dA D_X10_playsNights 120 rfl) ?_
    refine x_put (x := (rd M w 12) + ((rd M 2 (rd M (w + 1) x6)) * ((rd M (w + 2) x6) + (rd M (w + 3) x6)))) (dA D_X10_playsNights 121 rfl) fw_RX10_40 (fun _ _ hc => by cases hc; exact Or.inl rfl) (sOw_0 hw hS) rfl rfl rfl ?_
    refine x_nmM (fun M7 eM7 => ?_)
    have hM7 : Sh M7 := eM7 ▸ (sWw_0_12 hw hS)
    have h := h M7 eM7 hM7
    refine x_iinc (xs' := [vA w, vI x1, vI x2, vI x3, vI x4, vI x5, vI (x6 + 1)]) (dA D_X10_playsNights 122 rfl) rfl (by decide) rfl ?_
    refine x_goto (tgt := 164) (dA D_X10_playsNights 123 rfl) (by decide) ?_
    exact h
set_option maxRecDepth 100000 in
theorem B_X12_staying_0 {G : GG} {d : Nat} {k n : Nat} {x1 x2 : Int} {M : MM} {Q : PV → MM → Prop} (hd : 1 ≤ d) (hS : Sh M) (h : X G Y_X12_staying d k n 5 [vA 67, vI x1, vI x2, vI 0, vI 0] [] M Q) : X G Y_X12_staying d k n 0 [vA 67, vI x1, vI x2, vU, vU] [] M Q := by
  have hd1 : 1 ≤ d := by omega
  refine x_iconst (dA D_X12_staying 0 rfl) ?_
  refine x_istore_n (xs' := [vA 67, vI x1, vI x2, vI 0, vU]) (dA D_X12_staying 1 rfl) (by decide) rfl ?_
  refine x_iconst (dA D_X12_staying 2 rfl) ?_
  refine x_istore (xs' := [vA 67, vI x1, vI x2, vI 0, vI 0]) (dA D_X12_staying 3 rfl) (by decide) rfl ?_
  exact h
theorem C_X12_staying {G : GG} {d : Nat} {x1 x2 : Int} {M : MM} {Q : PV → MM → Prop} (h : X G Y_X12_staying d 0 0 0 [vA 67, vI x1, vI x2, vU, vU] [] M Q) : C G Y_X12_staying d 0 0 [vA 67, vI x1, vI x2] M Q := X.entry (by decide) (Nat.le_of_ble_eq_true rfl) rfl rfl rfl h
set_option maxRecDepth 100000 in
theorem B_X12_staying_5 {G : GG} {d : Nat} {k n : Nat} {x1 x2 x3 x4 : Int} {M : MM} {Q : PV → MM → Prop} (hd : 2 ≤ d) (hS : Sh M) (h : inR x4 ∧ inR x1 ∧ ((x1 ≤ x4 → Q (vI x3) M) ∧ (x4 < x1 → C G Y_X12_draw (d - 1) 0 0 [vA 67, vI 100] M (rI (fun r4 M3 => Sh M3 ∧ inR r4 ∧ inR x2 ∧ ∀ v11, v11 = x3 + (if r4 < x2 then 1 else 0) → X G Y_X12_staying d k n 5 [vA 67, vI x1, vI x2, vI v11, vI (x4 + 1)] [] M3 Q))))) : X G Y_X12_staying d k n 5 [vA 67, vI x1, vI x2, vI x3, vI x4] [] M Q := by
  have hd1 : 1 ≤ d := by omega
  refine x_iload (dA D_X12_staying 4 rfl) rfl ?_
  refine x_iload_n (dA D_X12_staying 5 rfl) rfl ?_
  obtain ⟨h1, h⟩ := h
  obtain ⟨h2, h⟩ := h
  refine x_icmp_geP (tgt := 35) (dA D_X12_staying 6 rfl) (by decide) h1 h2 ⟨fun c => ?_, fun c => ?_⟩
  · have h := h.1 c
    refine x_iload_n (dA D_X12_staying 20 rfl) rfl ?_
    exact x_ireturn (dA D_X12_staying 21 rfl) rfl h
  · have h := h.2 c
    refine x_iload_n (dA D_X12_staying 7 rfl) rfl ?_
    refine x_aload_n (dA D_X12_staying 8 rfl) rfl ?_
    refine x_bipush (dA D_X12_staying 9 rfl) (by decide) (by decide) ?_
    refine x_callV 11 [vI 100] [vI x3] (dA D_X12_staying 10 rfl) cw_RX12_499 rfl rfl (Nat.le_of_ble_eq_true rfl) (by decide) rfl hd1 (zk k) (zk n) (sO_67 hS) h (kI (fun r4 M3 h => ?_))
    obtain ⟨hM3, h⟩ := h
    refine x_iload_n (dA D_X12_staying 11 rfl) rfl ?_
    obtain ⟨h6, h⟩ := h
    obtain ⟨h7, h⟩ := h
    have hJ : X G Y_X12_staying d k n 27 [vA 67, vI x1, vI x2, vI x3, vI x4] [vI (if r4 < x2 then 1 else 0), vI x3] M3 Q := by
      refine x_iadd (dA D_X12_staying 16 rfl) ?_
      refine x_nmI (fun v11 ev11 => ?_)
      have h := h v11 ev11
      refine x_istore_n (xs' := [vA 67, vI x1, vI x2, vI v11, vI x4]) (dA D_X12_staying 17 rfl) (by decide) rfl ?_
      refine x_iinc (xs' := [vA 67, vI x1, vI x2, vI v11, vI (x4 + 1)]) (dA D_X12_staying 18 rfl) rfl (by decide) rfl ?_
      refine x_goto (tgt := 5) (dA D_X12_staying 19 rfl) (by decide) ?_
      exact h
    refine x_icmp_geP (tgt := 26) (dA D_X12_staying 12 rfl) (by decide) h6 h7 ⟨fun c5 => ?_, fun c5 => ?_⟩
    · refine x_iconst (dA D_X12_staying 15 rfl) ?_
      have e0 : (if r4 < x2 then (1 : Int) else 0) = 0 := if_neg (by first | omega | grind)
      rw [e0] at hJ
      exact hJ
    · refine x_iconst (dA D_X12_staying 13 rfl) ?_
      refine x_goto (tgt := 27) (dA D_X12_staying 14 rfl) (by decide) ?_
      have e0 : (if r4 < x2 then (1 : Int) else 0) = 1 := if_pos (by first | omega | grind)
      rw [e0] at hJ
      exact hJ
set_option maxRecDepth 100000 in
theorem B_X12_play_0 {G : GG} {d : Nat} {k n : Nat} {x1 x2 x3 x4 x5 : Int} {M : MM} {Q : PV → MM → Prop} (hd : 2 ≤ d) (hS : Sh M) (h : inR x1 ∧ ((x1 ≠ 0 → ((x1 ≠ 3 → 0 ≤ (((((((x2 * 6) + x3) + 1) * 6) + x4) * 6) + x5) ∧ (((((((x2 * 6) + x3) + 1) * 6) + x4) * 6) + x5) < 6912 ∧ Q (vI (rd M 82 (((((((x2 * 6) + x3) + 1) * 6) + x4) * 6) + x5))) M) ∧ (x1 = 3 → C G Y_X12_nextOf (d - 1) 0 0 [vA 67, vA 89, vI 0, vI (rd M 67 43), vI x2] M (rI (fun r5 M4 => Sh M4 ∧ Q (vI r5) M4))))) ∧ (x1 = 0 → C G Y_X12_nextOf (d - 1) 0 0 [vA 67, vA 69, vI 45, vI (rd M 69 3), vI x2] M (rI (fun r7 M6 => Sh M6 ∧ Q (vI r7) M6))))) : X G Y_X12_play d k n 0 [vA 67, vI x1, vI x2, vI x3, vI x4, vI x5] [] M Q := by
  have hd1 : 1 ≤ d := by omega
  refine x_iload_n (dA D_X12_play 0 rfl) rfl ?_
  obtain ⟨h1, h⟩ := h
  refine x_if_neP (tgt := 22) (dA D_X12_play 1 rfl) (by decide) h1 ⟨fun c => ?_, fun c => ?_⟩
  · have h := h.1 c
    refine x_iload_n (dA D_X12_play 13 rfl) rfl ?_
    refine x_iconst (dA D_X12_play 14 rfl) ?_
    refine x_icmp_neP (tgt := 44) (dA D_X12_play 15 rfl) (by decide) h1 ⟨by decide, by decide⟩ ⟨fun c => ?_, fun c => ?_⟩
    · have h := h.1 c
      refine x_aload_n (dA D_X12_play 25 rfl) rfl ?_
      refine x_get (v := vA 82) (dA D_X12_play 26 rfl) fw_RX12_73 (sO_67 hS) (congrArg (rfV G) (sR_67_33 hS)) ?_
      refine x_iload_n (dA D_X12_play 27 rfl) rfl ?_
      refine x_iload_n (dA D_X12_play 28 rfl) rfl ?_
      refine x_iload (dA D_X12_play 29 rfl) rfl ?_
      refine x_iload (dA D_X12_play 30 rfl) rfl ?_
      refine x_callS [vI x2, vI x3, vI x4, vI x5] [vA 82] (dA D_X12_play 31 rfl) cw_RX12_395 rfl rfl (Nat.le_of_ble_eq_true rfl) hd1 (zk k) (zk n) (S_X12_stateOf  (by omega) ?_) (kI (fun _ _ h => h))
      show X G Y_X12_play d k n 57 [vA 67, vI x1, vI x2, vI x3, vI x4, vI x5] [vI (((((((x2 * 6) + x3) + 1) * 6) + x4) * 6) + x5), vA 82] M Q
      obtain ⟨h2, h⟩ := h
      obtain ⟨h3, h⟩ := h
      refine x_iald (dA D_X12_play 32 rfl) (sA_82 hS h2 h3) ?_
      exact x_ireturn (dA D_X12_play 33 rfl) rfl h
    · have h := h.2 c
      refine x_aload_n (dA D_X12_play 16 rfl) rfl ?_
      refine x_aload_n (dA D_X12_play 17 rfl) rfl ?_
      refine x_get (v := vA 89) (dA D_X12_play 18 rfl) fw_RX12_97 (sO_67 hS) (congrArg (rfV G) (sR_67_42 hS)) ?_
      refine x_iconst (dA D_X12_play 19 rfl) ?_
      refine x_aload_n (dA D_X12_play 20 rfl) rfl ?_
      refine x_get (v := vI (rd M 67 43)) (dA D_X12_play 21 rfl) fw_RX12_437 (sO_67 hS) rfl ?_
      refine x_iload_n (dA D_X12_play 22 rfl) rfl ?_
      refine x_callV 11 [vA 89, vI 0, vI (rd M 67 43), vI x2] [] (dA D_X12_play 23 rfl) cw_RX12_469 rfl rfl (Nat.le_of_ble_eq_true rfl) (by decide) rfl hd1 (zk k) (zk n) (sO_67 hS) h (kI (fun r5 M4 h => ?_))
      obtain ⟨hM4, h⟩ := h
      refine x_goto (tgt := 58) (dA D_X12_play 24 rfl) (by decide) ?_
      exact x_ireturn (dA D_X12_play 33 rfl) rfl h
  · have h := h.2 c
    refine x_aload_n (dA D_X12_play 2 rfl) rfl ?_
    refine x_aload_n (dA D_X12_play 3 rfl) rfl ?_
    refine x_get (v := vA 69) (dA D_X12_play 4 rfl) fw_RX12_13 (sO_67 hS) (congrArg (rfV G) (sR_67_3 hS)) ?_
    refine x_bipush (dA D_X12_play 5 rfl) (by decide) (by decide) ?_
    refine x_aload_n (dA D_X12_play 6 rfl) rfl ?_
    refine x_get (v := vA 69) (dA D_X12_play 7 rfl) fw_RX12_13 (sO_67 hS) (congrArg (rfV G) (sR_67_3 hS)) ?_
    refine x_iconst (dA D_X12_play 8 rfl) ?_
    refine x_iald (dA D_X12_play 9 rfl) (sA_69 hS (by decide) (by decide)) ?_
    refine x_iload_n (dA D_X12_play 10 rfl) rfl ?_
    refine x_callV 11 [vA 69, vI 45, vI (rd M 69 3), vI x2] [] (dA D_X12_play 11 rfl) cw_RX12_469 rfl rfl (Nat.le_of_ble_eq_true rfl) (by decide) rfl hd1 (zk k) (zk n) (sO_67 hS) h (kI (fun r7 M6 h => ?_))
    obtain ⟨hM6, h⟩ := h
    exact x_ireturn (dA D_X12_play 12 rfl) rfl h
theorem C_X12_play {G : GG} {d : Nat} {x1 x2 x3 x4 x5 : Int} {M : MM} {Q : PV → MM → Prop} (h : X G Y_X12_play d 0 0 0 [vA 67, vI x1, vI x2, vI x3, vI x4, vI x5] [] M Q) : C G Y_X12_play d 0 0 [vA 67, vI x1, vI x2, vI x3, vI x4, vI x5] M Q := X.entry (by decide) (Nat.le_of_ble_eq_true rfl) rfl rfl rfl h
set_option maxRecDepth 100000 in
theorem B_X12_goThrough_0 {G : GG} {d : Nat} {k n : Nat} {x1 x2 x3 : Int} {M : MM} {Q : PV → MM → Prop} (hd : 1 ≤ d) (hS : Sh M) (h : ∀ M1, M1 = wr M 67 48 0 → Sh M1 → ∀ M2, M2 = wr M1 67 50 0 → Sh M2 → ∀ M3, M3 = wr M2 67 51 0 → Sh M3 → X G Y_X12_goThrough d k n 30 [vA 67, vI x1, vI x2, vI x3, vI x2, vI x3, vI 0, vI (-1), vI 1, vU, vU, vU] [] M3 Q) : X G Y_X12_goThrough d k n 0 [vA 67, vI x1, vI x2, vI x3, vU, vU, vU, vU, vU, vU, vU, vU] [] M Q := by
  have hd1 : 1 ≤ d := by omega
  refine x_iload_n (dA D_X12_goThrough 0 rfl) rfl ?_
  refine x_istore (xs' := [vA 67, vI x1, vI x2, vI x3, vI x2, vU, vU, vU, vU, vU, vU, vU]) (dA D_X12_goThrough 1 rfl) (by decide) rfl ?_
  refine x_iload_n (dA D_X12_goThrough 2 rfl) rfl ?_
  refine x_istore (xs' := [vA 67, vI x1, vI x2, vI x3, vI x2, vI x3, vU, vU, vU, vU, vU, vU]) (dA D_X12_goThrough 3 rfl) (by decide) rfl ?_
  refine x_iconst (dA D_X12_goThrough 4 rfl) ?_
  refine x_istore (xs' := [vA 67, vI x1, vI x2, vI x3, vI x2, vI x3, vI 0, vU, vU, vU, vU, vU]) (dA D_X12_goThrough 5 rfl) (by decide) rfl ?_
  refine x_iconst (dA D_X12_goThrough 6 rfl) ?_
  refine x_istore (xs' := [vA 67, vI x1, vI x2, vI x3, vI x2, vI x3, vI 0, vI (-1), vU, vU, vU, vU]) (dA D_X12_goThrough 7 rfl) (by decide) rfl ?_
  refine x_aload_n (dA D_X12_goThrough 8 rfl) rfl ?_
  refine x_iconst (dA D_X12_goThrough 9 rfl) ?_
  refine x_put (x := 0) (dA D_X12_goThrough 10 rfl) fw_RX12_502 (fun _ _ hc => by cases hc; exact Or.inl rfl) (sO_67 hS) rfl rfl rfl ?_
  refine x_nmM (fun M1 eM1 => ?_)
  have hM1 : Sh M1 := eM1 ▸ (sW_67_48 hS)
  have h := h M1 eM1 hM1
  refine x_aload_n (dA D_X12_goThrough 11 rfl) rfl ?_
  refine x_iconst (dA D_X12_goThrough 12 rfl) ?_
  refine x_put (x := 0) (dA D_X12_goThrough 13 rfl) fw_RX12_505 (fun _ _ hc => by cases hc; exact Or.inl rfl) (sO_67 hM1) rfl rfl rfl ?_
  refine x_nmM (fun M2 eM2 => ?_)
  have hM2 : Sh M2 := eM2 ▸ (sW_67_50 hM1)
  have h := h M2 eM2 hM2
  refine x_aload_n (dA D_X12_goThrough 14 rfl) rfl ?_
  refine x_iconst (dA D_X12_goThrough 15 rfl) ?_
  refine x_put (x := 0) (dA D_X12_goThrough 16 rfl) fw_RX12_508 (fun _ _ hc => by cases hc; exact Or.inl rfl) (sO_67 hM2) rfl rfl rfl ?_
  refine x_nmM (fun M3 eM3 => ?_)
  have hM3 : Sh M3 := eM3 ▸ (sW_67_51 hM2)
  have h := h M3 eM3 hM3
  refine x_iconst (dA D_X12_goThrough 17 rfl) ?_
  refine x_istore (xs' := [vA 67, vI x1, vI x2, vI x3, vI x2, vI x3, vI 0, vI (-1), vI 1, vU, vU, vU]) (dA D_X12_goThrough 18 rfl) (by decide) rfl ?_
  exact h
theorem C_X12_goThrough {G : GG} {d : Nat} {x1 x2 x3 : Int} {M : MM} {Q : PV → MM → Prop} (h : X G Y_X12_goThrough d 0 0 0 [vA 67, vI x1, vI x2, vI x3, vU, vU, vU, vU, vU, vU, vU, vU] [] M Q) : C G Y_X12_goThrough d 0 0 [vA 67, vI x1, vI x2, vI x3] M Q := X.entry (by decide) (Nat.le_of_ble_eq_true rfl) rfl rfl rfl h
set_option maxRecDepth 100000 in
theorem B_X12_goThrough_30 {G : GG} {d : Nat} {k n : Nat} {x1 x2 x3 x4 x5 x6 x7 x8 : Int} {sm : Int → LSm} {M : MM} {Q : PV → MM → Prop} (hd : 7 ≤ d) (hS : Sh M) (h : inR x8 ∧ inR (x4 + x5) ∧ ((((x8 = 0) ∨ ((x4 + x5) ≤ 0)) → Q vU M) ∧ (¬ ((x8 = 0) ∨ ((x4 + x5) ≤ 0)) → C G Y_X12_play (d - 1) 0 0 [vA 67, vI x1, vI x6, vI x7, vI x4, vI x5] M (rI (fun r16 M15 => Sh M15 ∧ inR r16 ∧ ((r16 = (-1) → X G Y_X12_goThrough d k n 91 [vA 67, vI x1, vI x2, vI x3, vI x4, vI x5, vI x6, vI x7, vI x8, vI r16, vU, vU] [] M15 Q) ∧ (r16 ≠ (-1) → RS (rd M15 69) ∧ (0 ≤ x6 ∧ x6 < 32) ∧ ((¬ ((iAnd (iShr (canB (rd M15 69) x6) (if 0 ≤ r16 then r16 else 0)) 1) = 1) → X G Y_X12_goThrough d k n 91 [vA 67, vI x1, vI x2, vI x3, vI x4, vI x5, vI x6, vI x7, vI x8, vI r16, vU, vU] [] M15 Q) ∧ ((iAnd (iShr (canB (rd M15 69) x6) (if 0 ≤ r16 then r16 else 0)) 1) = 1 → 0 ≤ (3 * (rd M15 67 48)) ∧ (3 * (rd M15 67 48)) < 15 ∧ ∀ M26, M26 = wr M15 92 (3 * (rd M15 67 48)) r16 → Sh M26 → 0 ≤ ((3 * (rd M26 67 48)) + 1) ∧ ((3 * (rd M26 67 48)) + 1) < 15 ∧ ∀ M29, M29 = wr M26 92 ((3 * (rd M26 67 48)) + 1) x4 → Sh M29 → 0 ≤ ((3 * (rd M29 67 48)) + 2) ∧ ((3 * (rd M29 67 48)) + 2) < 15 ∧ ∀ M32, M32 = wr M29 92 ((3 * (rd M29 67 48)) + 2) x5 → Sh M32 → ∀ M33, M33 = wr M32 67 48 ((rd M32 67 48) + 1) → Sh M33 → 0 ≤ ((10 + (3 * r16)) + (2 : Int)) ∧ ((10 + (3 * r16)) + (2 : Int)) < 5460 ∧ inR (rd M33 69 ((10 + (3 * r16)) + (2 : Int))) ∧ (((rd M33 69 ((10 + (3 * r16)) + (2 : Int))) ≠ 1 → MOK M33 sm ∧ (((0 : Int) = 0 ∨ (0 : Int) = 1)) ∧ rngS r16 x6 x7 x4 x5 ∧ ∀ r41 M40, (Fr KA M33 M40 ∧ r41 = chn (rd M33 69) sm (0 : Int) r16 x6 x7 x4 x5) → Sh M40 → MOK M40 sm ∧ (((1 : Int) = 0 ∨ (1 : Int) = 1)) ∧ ∀ r46 M45, (Fr KA M40 M45 ∧ r46 = chn (rd M40 69) sm (1 : Int) r16 x6 x7 x4 x5) → Sh M45 → C G Y_X12_staying (d - 1) 0 0 [vA 67, vI x4, vI r41] M45 (rI (fun r49 M48 => Sh M48 ∧ C G Y_X12_staying (d - 1) 0 0 [vA 67, vI x5, vI r46] M48 (rI (fun r51 M50 => Sh M50 ∧ ∀ v52, v52 = iOr x6 (iShl 1 r16) → X G Y_X12_goThrough d k n 30 [vA 67, vI x1, vI x2, vI x3, vI r49, vI r51, vI v52, vI r16, vI 1, vU, vU, vU] [] M50 Q))))) ∧ ((rd M33 69 ((10 + (3 * r16)) + (2 : Int))) = 1 → ∀ M53, M53 = wr M33 67 50 x4 → Sh M53 → ∀ M54, M54 = wr M53 67 51 x5 → Sh M54 → ∀ v55, v55 = iOr x6 (iShl 1 r16) → X G Y_X12_goThrough d k n 30 [vA 67, vI x1, vI x2, vI x3, vI x4, vI x5, vI v55, vI r16, vI 0, vU, vU, vU] [] M54 Q))))))))))) : X G Y_X12_goThrough d k n 30 [vA 67, vI x1, vI x2, vI x3, vI x4, vI x5, vI x6, vI x7, vI x8, vU, vU, vU] [] M Q := by
  have hd1 : 1 ≤ d := by omega
  refine x_iload (dA D_X12_goThrough 19 rfl) rfl ?_
  obtain ⟨h2, h⟩ := h
  obtain ⟨h7, h⟩ := h
  have hA : ((x8 = 0) ∨ ((x4 + x5) ≤ 0)) → X G Y_X12_goThrough d k n 251 [vA 67, vI x1, vI x2, vI x3, vI x4, vI x5, vI x6, vI x7, vI x8, vU, vU, vU] [] M Q := by
    intro c56
    have h := h.1 c56
    exact x_return (dA D_X12_goThrough 138 rfl) rfl h
  have hB : ¬ ((x8 = 0) ∨ ((x4 + x5) ≤ 0)) → X G Y_X12_goThrough d k n 43 [vA 67, vI x1, vI x2, vI x3, vI x4, vI x5, vI x6, vI x7, vI x8, vU, vU, vU] [] M Q := by
    intro c56
    have h := h.2 c56
    refine x_aload_n (dA D_X12_goThrough 25 rfl) rfl ?_
    refine x_iload_n (dA D_X12_goThrough 26 rfl) rfl ?_
    refine x_iload (dA D_X12_goThrough 27 rfl) rfl ?_
    refine x_iload (dA D_X12_goThrough 28 rfl) rfl ?_
    refine x_iload (dA D_X12_goThrough 29 rfl) rfl ?_
    refine x_iload (dA D_X12_goThrough 30 rfl) rfl ?_
    refine x_callV 11 [vI x1, vI x6, vI x7, vI x4, vI x5] [] (dA D_X12_goThrough 31 rfl) cw_RX12_511 rfl rfl (Nat.le_of_ble_eq_true rfl) (by decide) rfl hd1 (zk k) (zk n) (sO_67 hS) h (kI (fun r16 M15 h => ?_))
    obtain ⟨hM15, h⟩ := h
    refine x_istore (xs' := [vA 67, vI x1, vI x2, vI x3, vI x4, vI x5, vI x6, vI x7, vI x8, vI r16, vU, vU]) (dA D_X12_goThrough 32 rfl) (by decide) rfl ?_
    refine x_iload (dA D_X12_goThrough 33 rfl) rfl ?_
    refine x_iconst (dA D_X12_goThrough 34 rfl) ?_
    obtain ⟨h17, h⟩ := h
    refine x_icmp_eqP (tgt := 91) (dA D_X12_goThrough 35 rfl) (by decide) h17 ⟨by decide, by decide⟩ ⟨fun c => ?_, fun c => ?_⟩
    · have h := h.1 c
      exact h
    · have h := h.2 c
      refine x_aload_n (dA D_X12_goThrough 36 rfl) rfl ?_
      refine x_iload (dA D_X12_goThrough 37 rfl) rfl ?_
      obtain ⟨h18, h⟩ := h
      obtain ⟨h19, h⟩ := h
      refine x_callV 11 [vI x6] [] (dA D_X12_goThrough 38 rfl) cw_RX12_356 rfl rfl (Nat.le_of_ble_eq_true rfl) (by decide) rfl hd1 (zk k) (zk n) (sO_67 hM15) (S_X12_canBe hM15 h18 h19 (by omega) ?_) (kI (fun _ _ h => h))
      show X G Y_X12_goThrough d k n 70 [vA 67, vI x1, vI x2, vI x3, vI x4, vI x5, vI x6, vI x7, vI x8, vI r16, vU, vU] [vI (canB (rd M15 69) x6)] M15 Q
      refine x_iload (dA D_X12_goThrough 39 rfl) rfl ?_
      have hJ : X G Y_X12_goThrough d k n 81 [vA 67, vI x1, vI x2, vI x3, vI x4, vI x5, vI x6, vI x7, vI x8, vI r16, vU, vU] [vI (if 0 ≤ r16 then r16 else 0), vI (canB (rd M15 69) x6)] M15 Q := by
        refine x_callS [vI (canB (rd M15 69) x6), vI (if 0 ≤ r16 then r16 else 0)] [] (dA D_X12_goThrough 44 rfl) cw_RX12_138 rfl rfl (Nat.le_of_ble_eq_true rfl) hd1 (zk k) (zk n) (S_X12_is  (by omega) ?_) (kI (fun _ _ h => h))
        show X G Y_X12_goThrough d k n 84 [vA 67, vI x1, vI x2, vI x3, vI x4, vI x5, vI x6, vI x7, vI x8, vI r16, vU, vU] [vI (if (iAnd (iShr (canB (rd M15 69) x6) (if 0 ≤ r16 then r16 else 0)) 1) = 1 then 1 else 0)] M15 Q
        refine x_if_eqB (tgt := 91) (dA D_X12_goThrough 45 rfl) (by decide) ⟨fun c => ?_, fun c => ?_⟩
        · have h := h.1 c
          exact h
        · have h := h.2 c
          refine x_iconst (dA D_X12_goThrough 46 rfl) ?_
          refine x_goto (tgt := 92) (dA D_X12_goThrough 47 rfl) (by decide) ?_
          refine x_istore (xs' := [vA 67, vI x1, vI x2, vI x3, vI x4, vI x5, vI x6, vI x7, vI 1, vI r16, vU, vU]) (dA D_X12_goThrough 49 rfl) (by decide) rfl ?_
          refine x_iload (dA D_X12_goThrough 50 rfl) rfl ?_
          refine x_if_eqP (tgt := 248) (dA D_X12_goThrough 51 rfl) (by decide) ⟨by decide, by decide⟩ ⟨fun c => ?_, fun c => ?_⟩
          · exact absurd c (by decide)
          · skip
            refine x_aload_n (dA D_X12_goThrough 52 rfl) rfl ?_
            refine x_get (v := vA 92) (dA D_X12_goThrough 53 rfl) fw_RX12_106 (sO_67 hM15) (congrArg (rfV G) (sR_67_49 hM15)) ?_
            refine x_iconst (dA D_X12_goThrough 54 rfl) ?_
            refine x_aload_n (dA D_X12_goThrough 55 rfl) rfl ?_
            refine x_get (v := vI (rd M15 67 48)) (dA D_X12_goThrough 56 rfl) fw_RX12_502 (sO_67 hM15) rfl ?_
            refine x_imul (dA D_X12_goThrough 57 rfl) ?_
            refine x_iload (dA D_X12_goThrough 58 rfl) rfl ?_
            obtain ⟨h24, h⟩ := h
            obtain ⟨h25, h⟩ := h
            refine x_iast (dA D_X12_goThrough 59 rfl) (sA_92 hM15 h24 h25) ?_
            refine x_nmM (fun M26 eM26 => ?_)
            have hM26 : Sh M26 := eM26 ▸ (sW_92 hM15)
            have h := h M26 eM26 hM26
            refine x_aload_n (dA D_X12_goThrough 60 rfl) rfl ?_
            refine x_get (v := vA 92) (dA D_X12_goThrough 61 rfl) fw_RX12_106 (sO_67 hM26) (congrArg (rfV G) (sR_67_49 hM26)) ?_
            refine x_iconst (dA D_X12_goThrough 62 rfl) ?_
            refine x_aload_n (dA D_X12_goThrough 63 rfl) rfl ?_
            refine x_get (v := vI (rd M26 67 48)) (dA D_X12_goThrough 64 rfl) fw_RX12_502 (sO_67 hM26) rfl ?_
            refine x_imul (dA D_X12_goThrough 65 rfl) ?_
            refine x_iconst (dA D_X12_goThrough 66 rfl) ?_
            refine x_iadd (dA D_X12_goThrough 67 rfl) ?_
            refine x_iload (dA D_X12_goThrough 68 rfl) rfl ?_
            obtain ⟨h27, h⟩ := h
            obtain ⟨h28, h⟩ := h
            refine x_iast (dA D_X12_goThrough 69 rfl) (sA_92 hM26 h27 h28) ?_
            refine x_nmM (fun M29 eM29 => ?_)
            have hM29 : Sh M29 := eM29 ▸ (sW_92 hM26)
            have h := h M29 eM29 hM29
            refine x_aload_n (dA D_X12_goThrough 70 rfl) rfl ?_
            refine x_get (v := vA 92) (dA D_X12_goThrough 71 rfl) fw_RX12_106 (sO_67 hM29) (congrArg (rfV G) (sR_67_49 hM29)) ?_
            refine x_iconst (dA D_X12_goThrough 72 rfl) ?_
            refine x_aload_n (dA D_X12_goThrough 73 rfl) rfl ?_
            refine x_get (v := vI (rd M29 67 48)) (dA D_X12_goThrough 74 rfl) fw_RX12_502 (sO_67 hM29) rfl ?_
            refine x_imul (dA D_X12_goThrough 75 rfl) ?_
            refine x_iconst (dA D_X12_goThrough 76 rfl) ?_
            refine x_iadd (dA D_X12_goThrough 77 rfl) ?_
            refine x_iload (dA D_X12_goThrough 78 rfl) rfl ?_
            obtain ⟨h30, h⟩ := h
            obtain ⟨h31, h⟩ := h
            refine x_iast (dA D_X12_goThrough 79 rfl) (sA_92 hM29 h30 h31) ?_
            refine x_nmM (fun M32 eM32 => ?_)
            have hM32 : Sh M32 := eM32 ▸ (sW_92 hM29)
            have h := h M32 eM32 hM32
            refine x_aload_n (dA D_X12_goThrough 80 rfl) rfl ?_
            refine x_dup (dA D_X12_goThrough 81 rfl) rfl ?_
            refine x_get (v := vI (rd M32 67 48)) (dA D_X12_goThrough 82 rfl) fw_RX12_502 (sO_67 hM32) rfl ?_
            refine x_iconst (dA D_X12_goThrough 83 rfl) ?_
            refine x_iadd (dA D_X12_goThrough 84 rfl) ?_
            refine x_put (x := (rd M32 67 48) + 1) (dA D_X12_goThrough 85 rfl) fw_RX12_502 (fun _ _ hc => by cases hc; exact Or.inl rfl) (sO_67 hM32) rfl rfl rfl ?_
            refine x_nmM (fun M33 eM33 => ?_)
            have hM33 : Sh M33 := eM33 ▸ (sW_67_48 hM32)
            have h := h M33 eM33 hM33
            refine x_aload_n (dA D_X12_goThrough 86 rfl) rfl ?_
            refine x_iload (dA D_X12_goThrough 87 rfl) rfl ?_
            refine x_iconst (dA D_X12_goThrough 88 rfl) ?_
            obtain ⟨h34, h⟩ := h
            obtain ⟨h35, h⟩ := h
            refine x_callV 11 [vI r16, vI 2] [] (dA D_X12_goThrough 89 rfl) cw_RX12_350 rfl rfl (Nat.le_of_ble_eq_true rfl) (by decide) rfl hd1 (zk k) (zk n) (sO_67 hM33) (S_X12_ofScene hM33 h34 h35 (by omega) ?_) (kI (fun _ _ h => h))
            show X G Y_X12_goThrough d k n 159 [vA 67, vI x1, vI x2, vI x3, vI x4, vI x5, vI x6, vI x7, vI 1, vI r16, vU, vU] [vI (rd M33 69 ((10 + (3 * r16)) + (2 : Int)))] M33 Q
            refine x_iconst (dA D_X12_goThrough 90 rfl) ?_
            obtain ⟨h36, h⟩ := h
            refine x_icmp_neP (tgt := 181) (dA D_X12_goThrough 91 rfl) (by decide) h36 ⟨by decide, by decide⟩ ⟨fun c => ?_, fun c => ?_⟩
            · have h := h.1 c
              refine x_aload_n (dA D_X12_goThrough 101 rfl) rfl ?_
              refine x_iconst (dA D_X12_goThrough 102 rfl) ?_
              refine x_iload (dA D_X12_goThrough 103 rfl) rfl ?_
              refine x_iload (dA D_X12_goThrough 104 rfl) rfl ?_
              refine x_iload (dA D_X12_goThrough 105 rfl) rfl ?_
              refine x_iload (dA D_X12_goThrough 106 rfl) rfl ?_
              refine x_iload (dA D_X12_goThrough 107 rfl) rfl ?_
              obtain ⟨h37, h⟩ := h
              obtain ⟨h38, h⟩ := h
              obtain ⟨h39, h⟩ := h
              refine x_callV 11 [vI 0, vI r16, vI x6, vI x7, vI x4, vI x5] [] (dA D_X12_goThrough 108 rfl) cw_RX12_388 rfl rfl (Nat.le_of_ble_eq_true rfl) (by decide) rfl hd1 (zk k) (zk n) (sO_67 hM33) (T_X12_chance hM33 h37 h38 h39 (by omega) (fun r41 M40 p42 hM40 => ?_)) (kI (fun _ _ h => h))
              have h := h r41 M40 p42 hM40
              show X G Y_X12_goThrough d k n 196 [vA 67, vI x1, vI x2, vI x3, vI x4, vI x5, vI x6, vI x7, vI 1, vI r16, vU, vU] [vI r41] M40 Q
              refine x_istore (xs' := [vA 67, vI x1, vI x2, vI x3, vI x4, vI x5, vI x6, vI x7, vI 1, vI r16, vI r41, vU]) (dA D_X12_goThrough 109 rfl) (by decide) rfl ?_
              refine x_aload_n (dA D_X12_goThrough 110 rfl) rfl ?_
              refine x_iconst (dA D_X12_goThrough 111 rfl) ?_
              refine x_iload (dA D_X12_goThrough 112 rfl) rfl ?_
              refine x_iload (dA D_X12_goThrough 113 rfl) rfl ?_
              refine x_iload (dA D_X12_goThrough 114 rfl) rfl ?_
              refine x_iload (dA D_X12_goThrough 115 rfl) rfl ?_
              refine x_iload (dA D_X12_goThrough 116 rfl) rfl ?_
              obtain ⟨h43, h⟩ := h
              obtain ⟨h44, h⟩ := h
              refine x_callV 11 [vI 1, vI r16, vI x6, vI x7, vI x4, vI x5] [] (dA D_X12_goThrough 117 rfl) cw_RX12_388 rfl rfl (Nat.le_of_ble_eq_true rfl) (by decide) rfl hd1 (zk k) (zk n) (sO_67 hM40) (T_X12_chance hM40 h43 h44 h39 (by omega) (fun r46 M45 p47 hM45 => ?_)) (kI (fun _ _ h => h))
              have h := h r46 M45 p47 hM45
              show X G Y_X12_goThrough d k n 213 [vA 67, vI x1, vI x2, vI x3, vI x4, vI x5, vI x6, vI x7, vI 1, vI r16, vI r41, vU] [vI r46] M45 Q
              refine x_istore (xs' := [vA 67, vI x1, vI x2, vI x3, vI x4, vI x5, vI x6, vI x7, vI 1, vI r16, vI r41, vI r46]) (dA D_X12_goThrough 118 rfl) (by decide) rfl ?_
              refine x_aload_n (dA D_X12_goThrough 119 rfl) rfl ?_
              refine x_iload (dA D_X12_goThrough 120 rfl) rfl ?_
              refine x_iload (dA D_X12_goThrough 121 rfl) rfl ?_
              refine x_callV 11 [vI x4, vI r41] [] (dA D_X12_goThrough 122 rfl) cw_RX12_515 rfl rfl (Nat.le_of_ble_eq_true rfl) (by decide) rfl hd1 (zk k) (zk n) (sO_67 hM45) h (kI (fun r49 M48 h => ?_))
              obtain ⟨hM48, h⟩ := h
              refine x_istore (xs' := [vA 67, vI x1, vI x2, vI x3, vI r49, vI x5, vI x6, vI x7, vI 1, vI r16, vI r41, vI r46]) (dA D_X12_goThrough 123 rfl) (by decide) rfl ?_
              refine x_aload_n (dA D_X12_goThrough 124 rfl) rfl ?_
              refine x_iload (dA D_X12_goThrough 125 rfl) rfl ?_
              refine x_iload (dA D_X12_goThrough 126 rfl) rfl ?_
              refine x_callV 11 [vI x5, vI r46] [] (dA D_X12_goThrough 127 rfl) cw_RX12_515 rfl rfl (Nat.le_of_ble_eq_true rfl) (by decide) rfl hd1 (zk k) (zk n) (sO_67 hM48) h (kI (fun r51 M50 h => ?_))
              obtain ⟨hM50, h⟩ := h
              refine x_istore (xs' := [vA 67, vI x1, vI x2, vI x3, vI r49, vI r51, vI x6, vI x7, vI 1, vI r16, vI r41, vI r46]) (dA D_X12_goThrough 128 rfl) (by decide) rfl ?_
              refine x_iload (dA D_X12_goThrough 129 rfl) rfl ?_
              refine x_iconst (dA D_X12_goThrough 130 rfl) ?_
              refine x_iload (dA D_X12_goThrough 131 rfl) rfl ?_
              refine x_ishl (dA D_X12_goThrough 132 rfl) ?_
              refine x_ior (dA D_X12_goThrough 133 rfl) ?_
              refine x_nmI (fun v52 ev52 => ?_)
              have h := h v52 ev52
              refine x_istore (xs' := [vA 67, vI x1, vI x2, vI x3, vI r49, vI r51, vI v52, vI x7, vI 1, vI r16, vI r41, vI r46]) (dA D_X12_goThrough 134 rfl) (by decide) rfl ?_
              refine x_iload (dA D_X12_goThrough 135 rfl) rfl ?_
              refine x_istore (xs' := [vA 67, vI x1, vI x2, vI x3, vI r49, vI r51, vI v52, vI r16, vI 1, vI r16, vI r41, vI r46]) (dA D_X12_goThrough 136 rfl) (by decide) rfl ?_
              refine x_goto (tgt := 30) (dA D_X12_goThrough 137 rfl) (by decide) ?_
              refine X.weak (xs' := [vA 67, vI x1, vI x2, vI x3, vI r49, vI r51, vI v52, vI r16, vI 1, vU, vU, vU]) ⟨Or.inl rfl, Or.inl rfl, Or.inl rfl, Or.inl rfl, Or.inl rfl, Or.inl rfl, Or.inl rfl, Or.inl rfl, Or.inl rfl, Or.inr rfl, Or.inr rfl, Or.inr rfl, trivial⟩ ?_
              exact h
            · have h := h.2 c
              refine x_aload_n (dA D_X12_goThrough 92 rfl) rfl ?_
              refine x_iload (dA D_X12_goThrough 93 rfl) rfl ?_
              refine x_put (x := x4) (dA D_X12_goThrough 94 rfl) fw_RX12_505 (fun _ _ hc => by cases hc; exact Or.inl rfl) (sO_67 hM33) rfl rfl rfl ?_
              refine x_nmM (fun M53 eM53 => ?_)
              have hM53 : Sh M53 := eM53 ▸ (sW_67_50 hM33)
              have h := h M53 eM53 hM53
              refine x_aload_n (dA D_X12_goThrough 95 rfl) rfl ?_
              refine x_iload (dA D_X12_goThrough 96 rfl) rfl ?_
              refine x_put (x := x5) (dA D_X12_goThrough 97 rfl) fw_RX12_508 (fun _ _ hc => by cases hc; exact Or.inl rfl) (sO_67 hM53) rfl rfl rfl ?_
              refine x_nmM (fun M54 eM54 => ?_)
              have hM54 : Sh M54 := eM54 ▸ (sW_67_51 hM53)
              have h := h M54 eM54 hM54
              refine x_iconst (dA D_X12_goThrough 98 rfl) ?_
              refine x_istore (xs' := [vA 67, vI x1, vI x2, vI x3, vI x4, vI x5, vI x6, vI x7, vI 0, vI r16, vU, vU]) (dA D_X12_goThrough 99 rfl) (by decide) rfl ?_
              refine x_goto (tgt := 235) (dA D_X12_goThrough 100 rfl) (by decide) ?_
              refine x_iload (dA D_X12_goThrough 129 rfl) rfl ?_
              refine x_iconst (dA D_X12_goThrough 130 rfl) ?_
              refine x_iload (dA D_X12_goThrough 131 rfl) rfl ?_
              refine x_ishl (dA D_X12_goThrough 132 rfl) ?_
              refine x_ior (dA D_X12_goThrough 133 rfl) ?_
              refine x_nmI (fun v55 ev55 => ?_)
              have h := h v55 ev55
              refine x_istore (xs' := [vA 67, vI x1, vI x2, vI x3, vI x4, vI x5, vI v55, vI x7, vI 0, vI r16, vU, vU]) (dA D_X12_goThrough 134 rfl) (by decide) rfl ?_
              refine x_iload (dA D_X12_goThrough 135 rfl) rfl ?_
              refine x_istore (xs' := [vA 67, vI x1, vI x2, vI x3, vI x4, vI x5, vI v55, vI r16, vI 0, vI r16, vU, vU]) (dA D_X12_goThrough 136 rfl) (by decide) rfl ?_
              refine x_goto (tgt := 30) (dA D_X12_goThrough 137 rfl) (by decide) ?_
              refine X.weak (xs' := [vA 67, vI x1, vI x2, vI x3, vI x4, vI x5, vI v55, vI r16, vI 0, vU, vU, vU]) ⟨Or.inl rfl, Or.inl rfl, Or.inl rfl, Or.inl rfl, Or.inl rfl, Or.inl rfl, Or.inl rfl, Or.inl rfl, Or.inl rfl, Or.inr rfl, Or.inl rfl, Or.inl rfl, trivial⟩ ?_
              exact h
      refine x_if_geP (tgt := 79) (dA D_X12_goThrough 40 rfl) (by decide) h17 ⟨fun c20 => ?_, fun c20 => ?_⟩
      · refine x_iload (dA D_X12_goThrough 43 rfl) rfl ?_
        rw [if_pos c20] at hJ
        exact hJ
      · refine x_iconst (dA D_X12_goThrough 41 rfl) ?_
        refine x_goto (tgt := 81) (dA D_X12_goThrough 42 rfl) (by decide) ?_
        rw [if_neg (by first | omega | grind)] at hJ
        exact hJ
  refine x_if_eqP (tgt := 251) (dA D_X12_goThrough 20 rfl) (by decide) h2 ⟨fun c1 => ?_, fun c1 => ?_⟩
  · exact hA (by first | omega | grind)
  · refine x_iload (dA D_X12_goThrough 21 rfl) rfl ?_
    refine x_iload (dA D_X12_goThrough 22 rfl) rfl ?_
    refine x_iadd (dA D_X12_goThrough 23 rfl) ?_
    refine x_if_leP (tgt := 251) (dA D_X12_goThrough 24 rfl) (by decide) h7 ⟨fun c6 => ?_, fun c6 => ?_⟩
    · exact hA (by first | omega | grind)
    · exact hB (by first | omega | grind)
set_option maxRecDepth 100000 in
theorem B_X12_goThrough_91 {G : GG} {d : Nat} {k n : Nat} {x1 x2 x3 x4 x5 x6 x7 x8 x9 : Int} {M : MM} {Q : PV → MM → Prop} (hd : 1 ≤ d) (hS : Sh M) (h : X G Y_X12_goThrough d k n 30 [vA 67, vI x1, vI x2, vI x3, vI x4, vI x5, vI x6, vI x7, vI 0, vU, vU, vU] [] M Q) : X G Y_X12_goThrough d k n 91 [vA 67, vI x1, vI x2, vI x3, vI x4, vI x5, vI x6, vI x7, vI x8, vI x9, vU, vU] [] M Q := by
  have hd1 : 1 ≤ d := by omega
  refine x_iconst (dA D_X12_goThrough 48 rfl) ?_
  refine x_istore (xs' := [vA 67, vI x1, vI x2, vI x3, vI x4, vI x5, vI x6, vI x7, vI 0, vI x9, vU, vU]) (dA D_X12_goThrough 49 rfl) (by decide) rfl ?_
  refine x_iload (dA D_X12_goThrough 50 rfl) rfl ?_
  refine x_if_eqP (tgt := 248) (dA D_X12_goThrough 51 rfl) (by decide) ⟨by decide, by decide⟩ ⟨fun c => ?_, fun c => ?_⟩
  · skip
    refine x_goto (tgt := 30) (dA D_X12_goThrough 137 rfl) (by decide) ?_
    refine X.weak (xs' := [vA 67, vI x1, vI x2, vI x3, vI x4, vI x5, vI x6, vI x7, vI 0, vU, vU, vU]) ⟨Or.inl rfl, Or.inl rfl, Or.inl rfl, Or.inl rfl, Or.inl rfl, Or.inl rfl, Or.inl rfl, Or.inl rfl, Or.inl rfl, Or.inr rfl, Or.inl rfl, Or.inl rfl, trivial⟩ ?_
    exact h
  · exact absurd (by decide) c
