set_option maxRecDepth 100000 in
theorem B_X12_scene_0 {G : GG} {d : Nat} {k n : Nat} {x1 x2 x3 : Int} {M : MM} {Q : PV → MM → Prop} (hd : 3 ≤ d) (hS : Sh M) (h : ∀ M1, M1 = wr M 67 0 0 → Sh M1 → ∀ v2, v2 = rd M1 69 0 → inR v2 ∧ inR x1 ∧ ((¬ (fitM v2 (0 : Int) x1) → ∀ M5, M5 = telM M1 (-1 : Int) → Sh M5 → Q (vI (-1 : Int)) M5) ∧ (fitM v2 (0 : Int) x1 → inR x2 ∧ ((¬ (fitM v2 (1 : Int) x2) → ∀ M7, M7 = telM M1 (-1 : Int) → Sh M7 → Q (vI (-1 : Int)) M7) ∧ (fitM v2 (1 : Int) x2 → inR x3 ∧ ((fitM v2 (2 : Int) x3 → ((v2 ≠ 5 → C G Y_X12_addScene (d - 1) 0 0 [vA 67, vI x1, vI x2, vI x3] M1 (rU (fun M9 => Sh M9 ∧ (-7 < v2 ∧ inR v2) ∧ ∀ M11, M11 = telM M9 v2 → Sh M11 → Q (vI v2) M11))) ∧ (v2 = 5 → ∀ M12, M12 = telM M1 (-5 : Int) → Sh M12 → Q (vI (-5 : Int)) M12))) ∧ (¬ (fitM v2 (2 : Int) x3) → ∀ M13, M13 = telM M1 (-1 : Int) → Sh M13 → Q (vI (-1 : Int)) M13))))))) : X G Y_X12_scene d k n 0 [vA 67, vI x1, vI x2, vI x3, vU] [] M Q := by
  have hd1 : 1 ≤ d := by omega
  refine x_aload_n (dA D_X12_scene 0 rfl) rfl ?_
  refine x_iconst (dA D_X12_scene 1 rfl) ?_
  refine x_put (x := 0) (dA D_X12_scene 2 rfl) fw_RX12_115 (fun _ _ hc => by cases hc; exact Or.inl rfl) (sO_67 hS) rfl rfl rfl ?_
  refine x_nmM (fun M1 eM1 => ?_)
  have hM1 : Sh M1 := eM1 ▸ (sW_67_0 hS)
  have h := h M1 eM1 hM1
  refine x_aload_n (dA D_X12_scene 3 rfl) rfl ?_
  refine x_get (v := vA 69) (dA D_X12_scene 4 rfl) fw_RX12_13 (sO_67 hM1) (congrArg (rfV G) (sR_67_3 hM1)) ?_
  refine x_iconst (dA D_X12_scene 5 rfl) ?_
  refine x_iald (dA D_X12_scene 6 rfl) (sA_69 hM1 (by decide) (by decide)) ?_
  refine x_nmI (fun v2 ev2 => ?_)
  have h := h v2 ev2
  refine x_istore (xs' := [vA 67, vI x1, vI x2, vI x3, vI v2]) (dA D_X12_scene 7 rfl) (by decide) rfl ?_
  refine x_iload (dA D_X12_scene 8 rfl) rfl ?_
  refine x_iconst (dA D_X12_scene 9 rfl) ?_
  refine x_iload_n (dA D_X12_scene 10 rfl) rfl ?_
  obtain ⟨h3, h⟩ := h
  obtain ⟨h4, h⟩ := h
  refine x_callS [vI v2, vI 0, vI x1] [] (dA D_X12_scene 11 rfl) cw_RX12_142 rfl rfl (Nat.le_of_ble_eq_true rfl) hd1 (zk k) (zk n) (S_X12_fits h3 ⟨by decide, by decide⟩ h4 (by omega) ?_) (kI (fun _ _ h => h))
  show X G Y_X12_scene d k n 20 [vA 67, vI x1, vI x2, vI x3, vI v2] [vI (if fitM v2 (0 : Int) x1 then 1 else 0)] M1 Q
  refine x_if_eqB (tgt := 43) (dA D_X12_scene 12 rfl) (by decide) ⟨fun c => ?_, fun c => ?_⟩
  · have h := h.1 c
    refine x_aload_n (dA D_X12_scene 23 rfl) rfl ?_
    refine x_iconst (dA D_X12_scene 24 rfl) ?_
    refine x_callV 11 [vI (-1)] [] (dA D_X12_scene 25 rfl) cw_RX12_129 rfl rfl (Nat.le_of_ble_eq_true rfl) (by decide) rfl hd1 (zk k) (zk n) (sO_67 hM1) (S_X12_tell hM1 ⟨by decide, by decide, by decide⟩ (by omega) ?_) (kI (fun _ _ h => h))
    refine x_nmM (fun M5 eM5 => ?_)
    have hM5 : Sh M5 := eM5 ▸ (sTel hM1)
    have h := h M5 eM5 hM5
    show X G Y_X12_scene d k n 48 [vA 67, vI x1, vI x2, vI x3, vI v2] [vI (-1 : Int)] M5 Q
    exact x_ireturn (dA D_X12_scene 26 rfl) rfl h
  · have h := h.2 c
    refine x_iload (dA D_X12_scene 13 rfl) rfl ?_
    refine x_iconst (dA D_X12_scene 14 rfl) ?_
    refine x_iload_n (dA D_X12_scene 15 rfl) rfl ?_
    obtain ⟨h6, h⟩ := h
    refine x_callS [vI v2, vI 1, vI x2] [] (dA D_X12_scene 16 rfl) cw_RX12_142 rfl rfl (Nat.le_of_ble_eq_true rfl) hd1 (zk k) (zk n) (S_X12_fits h3 ⟨by decide, by decide⟩ h6 (by omega) ?_) (kI (fun _ _ h => h))
    show X G Y_X12_scene d k n 30 [vA 67, vI x1, vI x2, vI x3, vI v2] [vI (if fitM v2 (1 : Int) x2 then 1 else 0)] M1 Q
    refine x_if_eqB (tgt := 43) (dA D_X12_scene 17 rfl) (by decide) ⟨fun c => ?_, fun c => ?_⟩
    · have h := h.1 c
      refine x_aload_n (dA D_X12_scene 23 rfl) rfl ?_
      refine x_iconst (dA D_X12_scene 24 rfl) ?_
      refine x_callV 11 [vI (-1)] [] (dA D_X12_scene 25 rfl) cw_RX12_129 rfl rfl (Nat.le_of_ble_eq_true rfl) (by decide) rfl hd1 (zk k) (zk n) (sO_67 hM1) (S_X12_tell hM1 ⟨by decide, by decide, by decide⟩ (by omega) ?_) (kI (fun _ _ h => h))
      refine x_nmM (fun M7 eM7 => ?_)
      have hM7 : Sh M7 := eM7 ▸ (sTel hM1)
      have h := h M7 eM7 hM7
      show X G Y_X12_scene d k n 48 [vA 67, vI x1, vI x2, vI x3, vI v2] [vI (-1 : Int)] M7 Q
      exact x_ireturn (dA D_X12_scene 26 rfl) rfl h
    · have h := h.2 c
      refine x_iload (dA D_X12_scene 18 rfl) rfl ?_
      refine x_iconst (dA D_X12_scene 19 rfl) ?_
      refine x_iload_n (dA D_X12_scene 20 rfl) rfl ?_
      obtain ⟨h8, h⟩ := h
      refine x_callS [vI v2, vI 2, vI x3] [] (dA D_X12_scene 21 rfl) cw_RX12_142 rfl rfl (Nat.le_of_ble_eq_true rfl) hd1 (zk k) (zk n) (S_X12_fits h3 ⟨by decide, by decide⟩ h8 (by omega) ?_) (kI (fun _ _ h => h))
      show X G Y_X12_scene d k n 40 [vA 67, vI x1, vI x2, vI x3, vI v2] [vI (if fitM v2 (2 : Int) x3 then 1 else 0)] M1 Q
      refine x_if_neB (tgt := 49) (dA D_X12_scene 22 rfl) (by decide) ⟨fun c => ?_, fun c => ?_⟩
      · have h := h.1 c
        refine x_iload (dA D_X12_scene 27 rfl) rfl ?_
        refine x_iconst (dA D_X12_scene 28 rfl) ?_
        refine x_icmp_neP (tgt := 62) (dA D_X12_scene 29 rfl) (by decide) h3 ⟨by decide, by decide⟩ ⟨fun c => ?_, fun c => ?_⟩
        · have h := h.1 c
          refine x_aload_n (dA D_X12_scene 34 rfl) rfl ?_
          refine x_iload_n (dA D_X12_scene 35 rfl) rfl ?_
          refine x_iload_n (dA D_X12_scene 36 rfl) rfl ?_
          refine x_iload_n (dA D_X12_scene 37 rfl) rfl ?_
          refine x_callV 11 [vI x1, vI x2, vI x3] [] (dA D_X12_scene 38 rfl) cw_RX12_146 rfl rfl (Nat.le_of_ble_eq_true rfl) (by decide) rfl hd1 (zk k) (zk n) (sO_67 hM1) h (kU (fun M9 h => ?_))
          obtain ⟨hM9, h⟩ := h
          refine x_aload_n (dA D_X12_scene 39 rfl) rfl ?_
          refine x_iload (dA D_X12_scene 40 rfl) rfl ?_
          obtain ⟨h10, h⟩ := h
          refine x_callV 11 [vI v2] [] (dA D_X12_scene 41 rfl) cw_RX12_129 rfl rfl (Nat.le_of_ble_eq_true rfl) (by decide) rfl hd1 (zk k) (zk n) (sO_67 hM9) (S_X12_tell hM9 h10 (by omega) ?_) (kI (fun _ _ h => h))
          refine x_nmM (fun M11 eM11 => ?_)
          have hM11 : Sh M11 := eM11 ▸ (sTel hM9)
          have h := h M11 eM11 hM11
          show X G Y_X12_scene d k n 75 [vA 67, vI x1, vI x2, vI x3, vI v2] [vI v2] M11 Q
          exact x_ireturn (dA D_X12_scene 42 rfl) rfl h
        · have h := h.2 c
          refine x_aload_n (dA D_X12_scene 30 rfl) rfl ?_
          refine x_bipush (dA D_X12_scene 31 rfl) (by decide) (by decide) ?_
          refine x_callV 11 [vI (-5)] [] (dA D_X12_scene 32 rfl) cw_RX12_129 rfl rfl (Nat.le_of_ble_eq_true rfl) (by decide) rfl hd1 (zk k) (zk n) (sO_67 hM1) (S_X12_tell hM1 ⟨by decide, by decide, by decide⟩ (by omega) ?_) (kI (fun _ _ h => h))
          refine x_nmM (fun M12 eM12 => ?_)
          have hM12 : Sh M12 := eM12 ▸ (sTel hM1)
          have h := h M12 eM12 hM12
          show X G Y_X12_scene d k n 61 [vA 67, vI x1, vI x2, vI x3, vI v2] [vI (-5 : Int)] M12 Q
          exact x_ireturn (dA D_X12_scene 33 rfl) rfl h
      · have h := h.2 c
        refine x_aload_n (dA D_X12_scene 23 rfl) rfl ?_
        refine x_iconst (dA D_X12_scene 24 rfl) ?_
        refine x_callV 11 [vI (-1)] [] (dA D_X12_scene 25 rfl) cw_RX12_129 rfl rfl (Nat.le_of_ble_eq_true rfl) (by decide) rfl hd1 (zk k) (zk n) (sO_67 hM1) (S_X12_tell hM1 ⟨by decide, by decide, by decide⟩ (by omega) ?_) (kI (fun _ _ h => h))
        refine x_nmM (fun M13 eM13 => ?_)
        have hM13 : Sh M13 := eM13 ▸ (sTel hM1)
        have h := h M13 eM13 hM13
        show X G Y_X12_scene d k n 48 [vA 67, vI x1, vI x2, vI x3, vI v2] [vI (-1 : Int)] M13 Q
        exact x_ireturn (dA D_X12_scene 26 rfl) rfl h
theorem C_X12_scene {G : GG} {d : Nat} {x1 x2 x3 : Int} {M : MM} {Q : PV → MM → Prop} (h : X G Y_X12_scene d 0 0 0 [vA 67, vI x1, vI x2, vI x3, vU] [] M Q) : C G Y_X12_scene d 0 0 [vA 67, vI x1, vI x2, vI x3] M Q := X.entry (by decide) (Nat.le_of_ble_eq_true rfl) rfl rfl rfl h
set_option maxRecDepth 100000 in
theorem B_X12_put_0 {G : GG} {d : Nat} {k n : Nat} {x1 x2 x3 : Int} {M : MM} {Q : PV → MM → Prop} (hd : 3 ≤ d) (hS : Sh M) (h : ∀ M1, M1 = wr M 67 0 0 → Sh M1 → inR x1 ∧ inR x2 ∧ inR x3 ∧ ((fitM x1 x2 x3 → inR (rd M1 69 0) ∧ inL ((rd M1 69 0) - 1) ∧ ((¬ (((0 : Int) ≤ x1) ∧ (x1 ≤ ((rd M1 69 0) - 1))) → ∀ M7, M7 = telM M1 (-2 : Int) → Sh M7 → Q (vI (-2 : Int)) M7) ∧ (((0 : Int) ≤ x1) ∧ (x1 ≤ ((rd M1 69 0) - 1)) → 0 ≤ ((10 + (3 * x1)) + x2) ∧ ((10 + (3 * x1)) + x2) < 5460 ∧ ∀ M10, M10 = chgM M1 ((10 + (3 * x1)) + x2) x3 → Sh M10 → Q (vI (rd M1 69 ((10 + (3 * x1)) + x2))) M10))) ∧ (¬ (fitM x1 x2 x3) → ∀ M11, M11 = telM M1 (-1 : Int) → Sh M11 → Q (vI (-1 : Int)) M11))) : X G Y_X12_put d k n 0 [vA 67, vI x1, vI x2, vI x3] [] M Q := by
  have hd1 : 1 ≤ d := by omega
  refine x_aload_n (dA D_X12_put 0 rfl) rfl ?_
  refine x_iconst (dA D_X12_put 1 rfl) ?_
  refine x_put (x := 0) (dA D_X12_put 2 rfl) fw_RX12_115 (fun _ _ hc => by cases hc; exact Or.inl rfl) (sO_67 hS) rfl rfl rfl ?_
  refine x_nmM (fun M1 eM1 => ?_)
  have hM1 : Sh M1 := eM1 ▸ (sW_67_0 hS)
  have h := h M1 eM1 hM1
  refine x_iload_n (dA D_X12_put 3 rfl) rfl ?_
  refine x_iload_n (dA D_X12_put 4 rfl) rfl ?_
  refine x_iload_n (dA D_X12_put 5 rfl) rfl ?_
  obtain ⟨h2, h⟩ := h
  obtain ⟨h3, h⟩ := h
  obtain ⟨h4, h⟩ := h
  refine x_callS [vI x1, vI x2, vI x3] [] (dA D_X12_put 6 rfl) cw_RX12_142 rfl rfl (Nat.le_of_ble_eq_true rfl) hd1 (zk k) (zk n) (S_X12_fits h2 h3 h4 (by omega) ?_) (kI (fun _ _ h => h))
  show X G Y_X12_put d k n 11 [vA 67, vI x1, vI x2, vI x3] [vI (if fitM x1 x2 x3 then 1 else 0)] M1 Q
  refine x_if_neB (tgt := 20) (dA D_X12_put 7 rfl) (by decide) ⟨fun c => ?_, fun c => ?_⟩
  · have h := h.1 c
    refine x_aload_n (dA D_X12_put 12 rfl) rfl ?_
    refine x_iload_n (dA D_X12_put 13 rfl) rfl ?_
    obtain ⟨h5, h⟩ := h
    obtain ⟨h6, h⟩ := h
    refine x_callV 11 [vI x1] [] (dA D_X12_put 14 rfl) cw_RX12_150 rfl rfl (Nat.le_of_ble_eq_true rfl) (by decide) rfl hd1 (zk k) (zk n) (sO_67 hM1) (S_X12_isScene hM1 h2 h5 h6 (by omega) ?_) (kI (fun _ _ h => h))
    show X G Y_X12_put d k n 25 [vA 67, vI x1, vI x2, vI x3] [vI (if ((0 : Int) ≤ x1) ∧ (x1 ≤ ((rd M1 69 0) - 1)) then 1 else 0)] M1 Q
    refine x_if_eqB (tgt := 44) (dA D_X12_put 15 rfl) (by decide) ⟨fun c => ?_, fun c => ?_⟩
    · have h := h.1 c
      refine x_aload_n (dA D_X12_put 27 rfl) rfl ?_
      refine x_bipush (dA D_X12_put 28 rfl) (by decide) (by decide) ?_
      refine x_callV 11 [vI (-2)] [] (dA D_X12_put 29 rfl) cw_RX12_129 rfl rfl (Nat.le_of_ble_eq_true rfl) (by decide) rfl hd1 (zk k) (zk n) (sO_67 hM1) (S_X12_tell hM1 ⟨by decide, by decide, by decide⟩ (by omega) ?_) (kI (fun _ _ h => h))
      refine x_nmM (fun M7 eM7 => ?_)
      have hM7 : Sh M7 := eM7 ▸ (sTel hM1)
      have h := h M7 eM7 hM7
      show X G Y_X12_put d k n 50 [vA 67, vI x1, vI x2, vI x3] [vI (-2 : Int)] M7 Q
      exact x_ireturn (dA D_X12_put 30 rfl) rfl h
    · have h := h.2 c
      refine x_aload_n (dA D_X12_put 16 rfl) rfl ?_
      refine x_bipush (dA D_X12_put 17 rfl) (by decide) (by decide) ?_
      refine x_iconst (dA D_X12_put 18 rfl) ?_
      refine x_iload_n (dA D_X12_put 19 rfl) rfl ?_
      refine x_imul (dA D_X12_put 20 rfl) ?_
      refine x_iadd (dA D_X12_put 21 rfl) ?_
      refine x_iload_n (dA D_X12_put 22 rfl) rfl ?_
      refine x_iadd (dA D_X12_put 23 rfl) ?_
      refine x_iload_n (dA D_X12_put 24 rfl) rfl ?_
      obtain ⟨h8, h⟩ := h
      obtain ⟨h9, h⟩ := h
      refine x_callV 11 [vI ((10 + (3 * x1)) + x2), vI x3] [] (dA D_X12_put 25 rfl) cw_RX12_154 rfl rfl (Nat.le_of_ble_eq_true rfl) (by decide) rfl hd1 (zk k) (zk n) (sO_67 hM1) (S_X12_change hM1 h8 h9 (by omega) ?_) (kI (fun _ _ h => h))
      refine x_nmM (fun M10 eM10 => ?_)
      have hM10 : Sh M10 := eM10 ▸ (sChg hM1)
      have h := h M10 eM10 hM10
      show X G Y_X12_put d k n 41 [vA 67, vI x1, vI x2, vI x3] [vI (rd M1 69 ((10 + (3 * x1)) + x2))] M10 Q
      refine x_goto (tgt := 50) (dA D_X12_put 26 rfl) (by decide) ?_
      exact x_ireturn (dA D_X12_put 30 rfl) rfl h
  · have h := h.2 c
    refine x_aload_n (dA D_X12_put 8 rfl) rfl ?_
    refine x_iconst (dA D_X12_put 9 rfl) ?_
    refine x_callV 11 [vI (-1)] [] (dA D_X12_put 10 rfl) cw_RX12_129 rfl rfl (Nat.le_of_ble_eq_true rfl) (by decide) rfl hd1 (zk k) (zk n) (sO_67 hM1) (S_X12_tell hM1 ⟨by decide, by decide, by decide⟩ (by omega) ?_) (kI (fun _ _ h => h))
    refine x_nmM (fun M11 eM11 => ?_)
    have hM11 : Sh M11 := eM11 ▸ (sTel hM1)
    have h := h M11 eM11 hM11
    show X G Y_X12_put d k n 19 [vA 67, vI x1, vI x2, vI x3] [vI (-1 : Int)] M11 Q
    exact x_ireturn (dA D_X12_put 11 rfl) rfl h
theorem C_X12_put {G : GG} {d : Nat} {x1 x2 x3 : Int} {M : MM} {Q : PV → MM → Prop} (h : X G Y_X12_put d 0 0 0 [vA 67, vI x1, vI x2, vI x3] [] M Q) : C G Y_X12_put d 0 0 [vA 67, vI x1, vI x2, vI x3] M Q := X.entry (by decide) (Nat.le_of_ble_eq_true rfl) rfl rfl rfl h
set_option maxRecDepth 100000 in
theorem B_X12_sort_0 {G : GG} {d : Nat} {k n : Nat} {x1 x2 x3 : Int} {M : MM} {Q : PV → MM → Prop} (hd : 3 ≤ d) (hS : Sh M) (h : ∀ M1, M1 = wr M 67 0 0 → Sh M1 → inR x1 ∧ ((¬ (((0 : Int) ≤ x1) ∧ (x1 ≤ (1 : Int))) → X G Y_X12_sort d k n 54 [vA 67, vI x1, vI x2, vI x3, vU] [] M1 Q) ∧ (((0 : Int) ≤ x1) ∧ (x1 ≤ (1 : Int)) → inR x2 ∧ ((¬ (((0 : Int) ≤ x2) ∧ (x2 ≤ (2 : Int))) → X G Y_X12_sort d k n 54 [vA 67, vI x1, vI x2, vI x3, vU] [] M1 Q) ∧ (((0 : Int) ≤ x2) ∧ (x2 ≤ (2 : Int)) → inR x3 ∧ inL (if x2 ≠ 1 then 5 else 9) ∧ ((¬ (((0 : Int) ≤ x3) ∧ (x3 ≤ (if x2 ≠ 1 then 5 else 9))) → X G Y_X12_sort d k n 54 [vA 67, vI x1, vI x2, vI x3, vU] [] M1 Q) ∧ (((0 : Int) ≤ x3) ∧ (x3 ≤ (if x2 ≠ 1 then 5 else 9)) → 0 ≤ ((30 + (3 * x1)) + x2) ∧ ((30 + (3 * x1)) + x2) < 5460 ∧ ∀ M12, M12 = chgM M1 ((30 + (3 * x1)) + x2) x3 → Sh M12 → Q (vI (rd M1 69 ((30 + (3 * x1)) + x2))) M12))))))) : X G Y_X12_sort d k n 0 [vA 67, vI x1, vI x2, vI x3, vU] [] M Q := by
  have hd1 : 1 ≤ d := by omega
  refine x_aload_n (dA D_X12_sort 0 rfl) rfl ?_
  refine x_iconst (dA D_X12_sort 1 rfl) ?_
  refine x_put (x := 0) (dA D_X12_sort 2 rfl) fw_RX12_115 (fun _ _ hc => by cases hc; exact Or.inl rfl) (sO_67 hS) rfl rfl rfl ?_
  refine x_nmM (fun M1 eM1 => ?_)
  have hM1 : Sh M1 := eM1 ▸ (sW_67_0 hS)
  have h := h M1 eM1 hM1
  refine x_iload_n (dA D_X12_sort 3 rfl) rfl ?_
  obtain ⟨h2, h⟩ := h
  refine x_i2l (dA D_X12_sort 4 rfl) h2 ?_
  refine x_lconst (a := 0) (dA D_X12_sort 5 rfl) (by decide) ?_
  refine x_lconst (a := 1) (dA D_X12_sort 6 rfl) (by decide) ?_
  refine x_callS [vL x1, vL 0, vL 1] [] (dA D_X12_sort 7 rfl) cw_RX12_125 rfl rfl (Nat.le_of_ble_eq_true rfl) hd1 (zk k) (zk n) (S_X12_in (inR_L h2) ⟨by decide, by decide⟩ ⟨by decide, by decide⟩ (by omega) ?_) (kI (fun _ _ h => h))
  show X G Y_X12_sort d k n 12 [vA 67, vI x1, vI x2, vI x3, vU] [vI (if ((0 : Int) ≤ x1) ∧ (x1 ≤ (1 : Int)) then 1 else 0)] M1 Q
  refine x_if_eqB (tgt := 54) (dA D_X12_sort 8 rfl) (by decide) ⟨fun c => ?_, fun c => ?_⟩
  · have h := h.1 c
    exact h
  · have h := h.2 c
    refine x_iload_n (dA D_X12_sort 9 rfl) rfl ?_
    obtain ⟨h3, h⟩ := h
    refine x_i2l (dA D_X12_sort 10 rfl) h3 ?_
    refine x_lconst (a := 0) (dA D_X12_sort 11 rfl) (by decide) ?_
    refine x_ldc2 (a := 2) (dA D_X12_sort 12 rfl) kl_RX12_158 (by decide) ?_
    refine x_callS [vL x2, vL 0, vL 2] [] (dA D_X12_sort 13 rfl) cw_RX12_125 rfl rfl (Nat.le_of_ble_eq_true rfl) hd1 (zk k) (zk n) (S_X12_in (inR_L h3) ⟨by decide, by decide⟩ ⟨by decide, by decide⟩ (by omega) ?_) (kI (fun _ _ h => h))
    show X G Y_X12_sort d k n 24 [vA 67, vI x1, vI x2, vI x3, vU] [vI (if ((0 : Int) ≤ x2) ∧ (x2 ≤ (2 : Int)) then 1 else 0)] M1 Q
    refine x_if_eqB (tgt := 54) (dA D_X12_sort 14 rfl) (by decide) ⟨fun c => ?_, fun c => ?_⟩
    · have h := h.1 c
      exact h
    · have h := h.2 c
      refine x_iload_n (dA D_X12_sort 15 rfl) rfl ?_
      obtain ⟨h4, h⟩ := h
      refine x_i2l (dA D_X12_sort 16 rfl) h4 ?_
      refine x_lconst (a := 0) (dA D_X12_sort 17 rfl) (by decide) ?_
      refine x_iload_n (dA D_X12_sort 18 rfl) rfl ?_
      refine x_iconst (dA D_X12_sort 19 rfl) ?_
      have hJ : X G Y_X12_sort d k n 44 [vA 67, vI x1, vI x2, vI x3, vU] [vL (if x2 ≠ 1 then 5 else 9), vL 0, vL x3] M1 Q := by
        obtain ⟨h9, h⟩ := h
        refine x_callS [vL x3, vL 0, vL (if x2 ≠ 1 then 5 else 9)] [] (dA D_X12_sort 24 rfl) cw_RX12_125 rfl rfl (Nat.le_of_ble_eq_true rfl) hd1 (zk k) (zk n) (S_X12_in (inR_L h4) ⟨by decide, by decide⟩ h9 (by omega) ?_) (kI (fun _ _ h => h))
        show X G Y_X12_sort d k n 47 [vA 67, vI x1, vI x2, vI x3, vU] [vI (if ((0 : Int) ≤ x3) ∧ (x3 ≤ (if x2 ≠ 1 then 5 else 9)) then 1 else 0)] M1 Q
        refine x_if_eqB (tgt := 54) (dA D_X12_sort 25 rfl) (by decide) ⟨fun c => ?_, fun c => ?_⟩
        · have h := h.1 c
          exact h
        · have h := h.2 c
          refine x_iconst (dA D_X12_sort 26 rfl) ?_
          refine x_goto (tgt := 55) (dA D_X12_sort 27 rfl) (by decide) ?_
          refine x_istore (xs' := [vA 67, vI x1, vI x2, vI x3, vI 1]) (dA D_X12_sort 29 rfl) (by decide) rfl ?_
          refine x_iload (dA D_X12_sort 30 rfl) rfl ?_
          refine x_if_eqP (tgt := 78) (dA D_X12_sort 31 rfl) (by decide) ⟨by decide, by decide⟩ ⟨fun c => ?_, fun c => ?_⟩
          · exact absurd c (by decide)
          · skip
            refine x_aload_n (dA D_X12_sort 32 rfl) rfl ?_
            refine x_bipush (dA D_X12_sort 33 rfl) (by decide) (by decide) ?_
            refine x_iconst (dA D_X12_sort 34 rfl) ?_
            refine x_iload_n (dA D_X12_sort 35 rfl) rfl ?_
            refine x_imul (dA D_X12_sort 36 rfl) ?_
            refine x_iadd (dA D_X12_sort 37 rfl) ?_
            refine x_iload_n (dA D_X12_sort 38 rfl) rfl ?_
            refine x_iadd (dA D_X12_sort 39 rfl) ?_
            refine x_iload_n (dA D_X12_sort 40 rfl) rfl ?_
            obtain ⟨h10, h⟩ := h
            obtain ⟨h11, h⟩ := h
            refine x_callV 11 [vI ((30 + (3 * x1)) + x2), vI x3] [] (dA D_X12_sort 41 rfl) cw_RX12_154 rfl rfl (Nat.le_of_ble_eq_true rfl) (by decide) rfl hd1 (zk k) (zk n) (sO_67 hM1) (S_X12_change hM1 h10 h11 (by omega) ?_) (kI (fun _ _ h => h))
            refine x_nmM (fun M12 eM12 => ?_)
            have hM12 : Sh M12 := eM12 ▸ (sChg hM1)
            have h := h M12 eM12 hM12
            show X G Y_X12_sort d k n 75 [vA 67, vI x1, vI x2, vI x3, vI 1] [vI (rd M1 69 ((30 + (3 * x1)) + x2))] M12 Q
            refine x_goto (tgt := 83) (dA D_X12_sort 42 rfl) (by decide) ?_
            exact x_ireturn (dA D_X12_sort 46 rfl) rfl h
      refine x_icmp_neP (tgt := 41) (dA D_X12_sort 20 rfl) (by decide) h3 ⟨by decide, by decide⟩ ⟨fun c5 => ?_, fun c5 => ?_⟩
      · refine x_ldc2 (a := 5) (dA D_X12_sort 23 rfl) kl_RX12_162 (by decide) ?_
        rw [if_pos c5] at hJ
        exact hJ
      · refine x_ldc2 (a := 9) (dA D_X12_sort 21 rfl) kl_RX12_160 (by decide) ?_
        refine x_goto (tgt := 44) (dA D_X12_sort 22 rfl) (by decide) ?_
        rw [if_neg (by first | omega | grind)] at hJ
        exact hJ
theorem C_X12_sort {G : GG} {d : Nat} {x1 x2 x3 : Int} {M : MM} {Q : PV → MM → Prop} (h : X G Y_X12_sort d 0 0 0 [vA 67, vI x1, vI x2, vI x3, vU] [] M Q) : C G Y_X12_sort d 0 0 [vA 67, vI x1, vI x2, vI x3] M Q := X.entry (by decide) (Nat.le_of_ble_eq_true rfl) rfl rfl rfl h
set_option maxRecDepth 100000 in
theorem B_X12_sort_54 {G : GG} {d : Nat} {k n : Nat} {x1 x2 x3 : Int} {M : MM} {Q : PV → MM → Prop} (hd : 2 ≤ d) (hS : Sh M) (h : ∀ M1, M1 = telM M (-1 : Int) → Sh M1 → Q (vI (-1 : Int)) M1) : X G Y_X12_sort d k n 54 [vA 67, vI x1, vI x2, vI x3, vU] [] M Q := by
  have hd1 : 1 ≤ d := by omega
  refine x_iconst (dA D_X12_sort 28 rfl) ?_
  refine x_istore (xs' := [vA 67, vI x1, vI x2, vI x3, vI 0]) (dA D_X12_sort 29 rfl) (by decide) rfl ?_
  refine x_iload (dA D_X12_sort 30 rfl) rfl ?_
  refine x_if_eqP (tgt := 78) (dA D_X12_sort 31 rfl) (by decide) ⟨by decide, by decide⟩ ⟨fun c => ?_, fun c => ?_⟩
  · skip
    refine x_aload_n (dA D_X12_sort 43 rfl) rfl ?_
    refine x_iconst (dA D_X12_sort 44 rfl) ?_
    refine x_callV 11 [vI (-1)] [] (dA D_X12_sort 45 rfl) cw_RX12_129 rfl rfl (Nat.le_of_ble_eq_true rfl) (by decide) rfl hd1 (zk k) (zk n) (sO_67 hS) (S_X12_tell hS ⟨by decide, by decide, by decide⟩ (by omega) ?_) (kI (fun _ _ h => h))
    refine x_nmM (fun M1 eM1 => ?_)
    have hM1 : Sh M1 := eM1 ▸ (sTel hS)
    have h := h M1 eM1 hM1
    show X G Y_X12_sort d k n 83 [vA 67, vI x1, vI x2, vI x3, vI 0] [vI (-1 : Int)] M1 Q
    exact x_ireturn (dA D_X12_sort 46 rfl) rfl h
  · exact absurd (by decide) c
set_option maxRecDepth 100000 in
theorem B_X12_row_0 {G : GG} {d : Nat} {k n : Nat} {M : MM} {Q : PV → MM → Prop} (hd : 2 ≤ d) (hS : Sh M) (h : ∀ M1, M1 = wr M 67 0 0 → Sh M1 → ∀ v2, v2 = rd M1 67 8 → ∀ M3, M3 = wr M1 67 8 0 → Sh M3 → inR v2 ∧ ((v2 ≠ 0 → ∀ M5, M5 = wr M3 67 6 0 → Sh M5 → X G Y_X12_row d k n 35 [vA 67, vI v2, vI 0, vI 0, vU, vU] [] M5 Q) ∧ (v2 = 0 → ∀ M6, M6 = telM M3 (-6 : Int) → Sh M6 → Q (vI (-6 : Int)) M6))) : X G Y_X12_row d k n 0 [vA 67, vU, vU, vU, vU, vU] [] M Q := by
  have hd1 : 1 ≤ d := by omega
  refine x_aload_n (dA D_X12_row 0 rfl) rfl ?_
  refine x_iconst (dA D_X12_row 1 rfl) ?_
  refine x_put (x := 0) (dA D_X12_row 2 rfl) fw_RX12_115 (fun _ _ hc => by cases hc; exact Or.inl rfl) (sO_67 hS) rfl rfl rfl ?_
  refine x_nmM (fun M1 eM1 => ?_)
  have hM1 : Sh M1 := eM1 ▸ (sW_67_0 hS)
  have h := h M1 eM1 hM1
  refine x_aload_n (dA D_X12_row 3 rfl) rfl ?_
  refine x_get (v := vI (rd M1 67 8)) (dA D_X12_row 4 rfl) fw_RX12_168 (sO_67 hM1) rfl ?_
  refine x_nmI (fun v2 ev2 => ?_)
  have h := h v2 ev2
  refine x_istore_n (xs' := [vA 67, vI v2, vU, vU, vU, vU]) (dA D_X12_row 5 rfl) (by decide) rfl ?_
  refine x_aload_n (dA D_X12_row 6 rfl) rfl ?_
  refine x_iconst (dA D_X12_row 7 rfl) ?_
  refine x_put (x := 0) (dA D_X12_row 8 rfl) fw_RX12_168 (fun _ _ hc => by cases hc; exact Or.inl rfl) (sO_67 hM1) rfl rfl rfl ?_
  refine x_nmM (fun M3 eM3 => ?_)
  have hM3 : Sh M3 := eM3 ▸ (sW_67_8 hM1)
  have h := h M3 eM3 hM3
  refine x_iload_n (dA D_X12_row 9 rfl) rfl ?_
  obtain ⟨h4, h⟩ := h
  refine x_if_neP (tgt := 26) (dA D_X12_row 10 rfl) (by decide) h4 ⟨fun c => ?_, fun c => ?_⟩
  · have h := h.1 c
    refine x_aload_n (dA D_X12_row 15 rfl) rfl ?_
    refine x_iconst (dA D_X12_row 16 rfl) ?_
    refine x_put (x := 0) (dA D_X12_row 17 rfl) fw_RX12_171 (fun _ _ hc => by cases hc; exact Or.inl rfl) (sO_67 hM3) rfl rfl rfl ?_
    refine x_nmM (fun M5 eM5 => ?_)
    have hM5 : Sh M5 := eM5 ▸ (sW_67_6 hM3)
    have h := h M5 eM5 hM5
    refine x_iconst (dA D_X12_row 18 rfl) ?_
    refine x_istore_n (xs' := [vA 67, vI v2, vI 0, vU, vU, vU]) (dA D_X12_row 19 rfl) (by decide) rfl ?_
    refine x_iconst (dA D_X12_row 20 rfl) ?_
    refine x_istore_n (xs' := [vA 67, vI v2, vI 0, vI 0, vU, vU]) (dA D_X12_row 21 rfl) (by decide) rfl ?_
    exact h
  · have h := h.2 c
    refine x_aload_n (dA D_X12_row 11 rfl) rfl ?_
    refine x_bipush (dA D_X12_row 12 rfl) (by decide) (by decide) ?_
    refine x_callV 11 [vI (-6)] [] (dA D_X12_row 13 rfl) cw_RX12_129 rfl rfl (Nat.le_of_ble_eq_true rfl) (by decide) rfl hd1 (zk k) (zk n) (sO_67 hM3) (S_X12_tell hM3 ⟨by decide, by decide, by decide⟩ (by omega) ?_) (kI (fun _ _ h => h))
    refine x_nmM (fun M6 eM6 => ?_)
    have hM6 : Sh M6 := eM6 ▸ (sTel hM3)
    have h := h M6 eM6 hM6
    show X G Y_X12_row d k n 25 [vA 67, vI v2, vU, vU, vU, vU] [vI (-6 : Int)] M6 Q
    exact x_ireturn (dA D_X12_row 14 rfl) rfl h
theorem C_X12_row {G : GG} {d : Nat} {M : MM} {Q : PV → MM → Prop} (h : X G Y_X12_row d 0 0 0 [vA 67, vU, vU, vU, vU, vU] [] M Q) : C G Y_X12_row d 0 0 [vA 67] M Q := X.entry (by decide) (Nat.le_of_ble_eq_true rfl) rfl rfl rfl h
set_option maxRecDepth 100000 in
theorem B_X12_row_35 {G : GG} {d : Nat} {k n : Nat} {x1 x2 x3 : Int} {M : MM} {Q : PV → MM → Prop} (hd : 3 ≤ d) (hS : Sh M) (h : inR x3 ∧ inR x1 ∧ ((x1 ≤ x3 → (-7 < x2 ∧ inR x2) ∧ ∀ M4, M4 = telM M x2 → Sh M4 → Q (vI x2) M4) ∧ (x3 < x1 → ∀ v5, v5 = rd M 69 0 → inR (x3 + 2) ∧ inR v5 ∧ ((((x1 ≤ (x3 + 2)) ∨ (5 ≤ v5)) → X G Y_X12_row d k n 65 [vA 67, vI x1, vI x2, vI x3, vI v5, vU] [] M Q) ∧ (¬ ((x1 ≤ (x3 + 2)) ∨ (5 ≤ v5)) → 0 ≤ x3 ∧ x3 < 400 ∧ inR (rd M 72 x3) ∧ ((¬ (fitM v5 (0 : Int) (rd M 72 x3)) → X G Y_X12_row d k n 126 [vA 67, vI x1, vI x2, vI x3, vI v5, vI 1] [] M Q) ∧ (fitM v5 (0 : Int) (rd M 72 x3) → 0 ≤ (x3 + 1) ∧ (x3 + 1) < 400 ∧ inR (rd M 72 (x3 + 1)) ∧ ((¬ (fitM v5 (1 : Int) (rd M 72 (x3 + 1))) → X G Y_X12_row d k n 126 [vA 67, vI x1, vI x2, vI x3, vI v5, vI 1] [] M Q) ∧ (fitM v5 (1 : Int) (rd M 72 (x3 + 1)) → 0 ≤ (x3 + 2) ∧ (x3 + 2) < 400 ∧ inR (rd M 72 (x3 + 2)) ∧ ((¬ (fitM v5 (2 : Int) (rd M 72 (x3 + 2))) → X G Y_X12_row d k n 126 [vA 67, vI x1, vI x2, vI x3, vI v5, vI 1] [] M Q) ∧ (fitM v5 (2 : Int) (rd M 72 (x3 + 2)) → C G Y_X12_addScene (d - 1) 0 0 [vA 67, vI (rd M 72 x3), vI (rd M 72 (x3 + 1)), vI (rd M 72 (x3 + 2))] M (rU (fun M23 => Sh M23 ∧ X G Y_X12_row d k n 35 [vA 67, vI x1, vI (x2 + 1), vI (x3 + 3), vU, vU] [] M23 Q))))))))))))) : X G Y_X12_row d k n 35 [vA 67, vI x1, vI x2, vI x3, vU, vU] [] M Q := by
  have hd1 : 1 ≤ d := by omega
  refine x_iload_n (dA D_X12_row 22 rfl) rfl ?_
  refine x_iload_n (dA D_X12_row 23 rfl) rfl ?_
  obtain ⟨h1, h⟩ := h
  obtain ⟨h2, h⟩ := h
  refine x_icmp_geP (tgt := 182) (dA D_X12_row 24 rfl) (by decide) h1 h2 ⟨fun c => ?_, fun c => ?_⟩
  · have h := h.1 c
    refine x_aload_n (dA D_X12_row 106 rfl) rfl ?_
    refine x_iload_n (dA D_X12_row 107 rfl) rfl ?_
    obtain ⟨h3, h⟩ := h
    refine x_callV 11 [vI x2] [] (dA D_X12_row 108 rfl) cw_RX12_129 rfl rfl (Nat.le_of_ble_eq_true rfl) (by decide) rfl hd1 (zk k) (zk n) (sO_67 hS) (S_X12_tell hS h3 (by omega) ?_) (kI (fun _ _ h => h))
    refine x_nmM (fun M4 eM4 => ?_)
    have hM4 : Sh M4 := eM4 ▸ (sTel hS)
    have h := h M4 eM4 hM4
    show X G Y_X12_row d k n 187 [vA 67, vI x1, vI x2, vI x3, vU, vU] [vI x2] M4 Q
    exact x_ireturn (dA D_X12_row 109 rfl) rfl h
  · have h := h.2 c
    refine x_aload_n (dA D_X12_row 25 rfl) rfl ?_
    refine x_get (v := vA 69) (dA D_X12_row 26 rfl) fw_RX12_13 (sO_67 hS) (congrArg (rfV G) (sR_67_3 hS)) ?_
    refine x_iconst (dA D_X12_row 27 rfl) ?_
    refine x_iald (dA D_X12_row 28 rfl) (sA_69 hS (by decide) (by decide)) ?_
    refine x_nmI (fun v5 ev5 => ?_)
    have h := h v5 ev5
    refine x_istore (xs' := [vA 67, vI x1, vI x2, vI x3, vI v5, vU]) (dA D_X12_row 29 rfl) (by decide) rfl ?_
    refine x_iload_n (dA D_X12_row 30 rfl) rfl ?_
    refine x_iconst (dA D_X12_row 31 rfl) ?_
    refine x_iadd (dA D_X12_row 32 rfl) ?_
    refine x_iload_n (dA D_X12_row 33 rfl) rfl ?_
    obtain ⟨h7, h⟩ := h
    obtain ⟨h11, h⟩ := h
    have hA : ((x1 ≤ (x3 + 2)) ∨ (5 ≤ v5)) → X G Y_X12_row d k n 65 [vA 67, vI x1, vI x2, vI x3, vI v5, vU] [] M Q := by
      intro c24
      have h := h.1 c24
      exact h
    have hB : ¬ ((x1 ≤ (x3 + 2)) ∨ (5 ≤ v5)) → X G Y_X12_row d k n 66 [vA 67, vI x1, vI x2, vI x3, vI v5, vU] [vI 1] M Q := by
      intro c24
      have h := h.2 c24
      refine x_istore (xs' := [vA 67, vI x1, vI x2, vI x3, vI v5, vI 1]) (dA D_X12_row 41 rfl) (by decide) rfl ?_
      refine x_iload (dA D_X12_row 42 rfl) rfl ?_
      refine x_if_eqP (tgt := 126) (dA D_X12_row 43 rfl) (by decide) ⟨by decide, by decide⟩ ⟨fun c => ?_, fun c => ?_⟩
      · exact absurd c (by decide)
      · skip
        refine x_iload (dA D_X12_row 44 rfl) rfl ?_
        refine x_iconst (dA D_X12_row 45 rfl) ?_
        refine x_aload_n (dA D_X12_row 46 rfl) rfl ?_
        refine x_get (v := vA 72) (dA D_X12_row 47 rfl) fw_RX12_23 (sO_67 hS) (congrArg (rfV G) (sR_67_7 hS)) ?_
        refine x_iload_n (dA D_X12_row 48 rfl) rfl ?_
        obtain ⟨h14, h⟩ := h
        obtain ⟨h15, h⟩ := h
        refine x_iald (dA D_X12_row 49 rfl) (sA_72 hS h14 h15) ?_
        obtain ⟨h16, h⟩ := h
        refine x_callS [vI v5, vI 0, vI (rd M 72 x3)] [] (dA D_X12_row 50 rfl) cw_RX12_142 rfl rfl (Nat.le_of_ble_eq_true rfl) hd1 (zk k) (zk n) (S_X12_fits h11 ⟨by decide, by decide⟩ h16 (by omega) ?_) (kI (fun _ _ h => h))
        show X G Y_X12_row d k n 85 [vA 67, vI x1, vI x2, vI x3, vI v5, vI 1] [vI (if fitM v5 (0 : Int) (rd M 72 x3) then 1 else 0)] M Q
        refine x_if_eqB (tgt := 126) (dA D_X12_row 51 rfl) (by decide) ⟨fun c => ?_, fun c => ?_⟩
        · have h := h.1 c
          exact h
        · have h := h.2 c
          refine x_iload (dA D_X12_row 52 rfl) rfl ?_
          refine x_iconst (dA D_X12_row 53 rfl) ?_
          refine x_aload_n (dA D_X12_row 54 rfl) rfl ?_
          refine x_get (v := vA 72) (dA D_X12_row 55 rfl) fw_RX12_23 (sO_67 hS) (congrArg (rfV G) (sR_67_7 hS)) ?_
          refine x_iload_n (dA D_X12_row 56 rfl) rfl ?_
          refine x_iconst (dA D_X12_row 57 rfl) ?_
          refine x_iadd (dA D_X12_row 58 rfl) ?_
          obtain ⟨h17, h⟩ := h
          obtain ⟨h18, h⟩ := h
          refine x_iald (dA D_X12_row 59 rfl) (sA_72 hS h17 h18) ?_
          obtain ⟨h19, h⟩ := h
          refine x_callS [vI v5, vI 1, vI (rd M 72 (x3 + 1))] [] (dA D_X12_row 60 rfl) cw_RX12_142 rfl rfl (Nat.le_of_ble_eq_true rfl) hd1 (zk k) (zk n) (S_X12_fits h11 ⟨by decide, by decide⟩ h19 (by omega) ?_) (kI (fun _ _ h => h))
          show X G Y_X12_row d k n 102 [vA 67, vI x1, vI x2, vI x3, vI v5, vI 1] [vI (if fitM v5 (1 : Int) (rd M 72 (x3 + 1)) then 1 else 0)] M Q
          refine x_if_eqB (tgt := 126) (dA D_X12_row 61 rfl) (by decide) ⟨fun c => ?_, fun c => ?_⟩
          · have h := h.1 c
            exact h
          · have h := h.2 c
            refine x_iload (dA D_X12_row 62 rfl) rfl ?_
            refine x_iconst (dA D_X12_row 63 rfl) ?_
            refine x_aload_n (dA D_X12_row 64 rfl) rfl ?_
            refine x_get (v := vA 72) (dA D_X12_row 65 rfl) fw_RX12_23 (sO_67 hS) (congrArg (rfV G) (sR_67_7 hS)) ?_
            refine x_iload_n (dA D_X12_row 66 rfl) rfl ?_
            refine x_iconst (dA D_X12_row 67 rfl) ?_
            refine x_iadd (dA D_X12_row 68 rfl) ?_
            obtain ⟨h20, h⟩ := h
            obtain ⟨h21, h⟩ := h
            refine x_iald (dA D_X12_row 69 rfl) (sA_72 hS h20 h21) ?_
            obtain ⟨h22, h⟩ := h
            refine x_callS [vI v5, vI 2, vI (rd M 72 (x3 + 2))] [] (dA D_X12_row 70 rfl) cw_RX12_142 rfl rfl (Nat.le_of_ble_eq_true rfl) hd1 (zk k) (zk n) (S_X12_fits h11 ⟨by decide, by decide⟩ h22 (by omega) ?_) (kI (fun _ _ h => h))
            show X G Y_X12_row d k n 119 [vA 67, vI x1, vI x2, vI x3, vI v5, vI 1] [vI (if fitM v5 (2 : Int) (rd M 72 (x3 + 2)) then 1 else 0)] M Q
            refine x_if_eqB (tgt := 126) (dA D_X12_row 71 rfl) (by decide) ⟨fun c => ?_, fun c => ?_⟩
            · have h := h.1 c
              exact h
            · have h := h.2 c
              refine x_iconst (dA D_X12_row 72 rfl) ?_
              refine x_goto (tgt := 127) (dA D_X12_row 73 rfl) (by decide) ?_
              refine x_istore (xs' := [vA 67, vI x1, vI x2, vI x3, vI v5, vI 1]) (dA D_X12_row 75 rfl) (by decide) rfl ?_
              refine x_iload (dA D_X12_row 76 rfl) rfl ?_
              refine x_if_eqP (tgt := 166) (dA D_X12_row 77 rfl) (by decide) ⟨by decide, by decide⟩ ⟨fun c => ?_, fun c => ?_⟩
              · exact absurd c (by decide)
              · skip
                refine x_aload_n (dA D_X12_row 78 rfl) rfl ?_
                refine x_aload_n (dA D_X12_row 79 rfl) rfl ?_
                refine x_get (v := vA 72) (dA D_X12_row 80 rfl) fw_RX12_23 (sO_67 hS) (congrArg (rfV G) (sR_67_7 hS)) ?_
                refine x_iload_n (dA D_X12_row 81 rfl) rfl ?_
                refine x_iald (dA D_X12_row 82 rfl) (sA_72 hS h14 h15) ?_
                refine x_aload_n (dA D_X12_row 83 rfl) rfl ?_
                refine x_get (v := vA 72) (dA D_X12_row 84 rfl) fw_RX12_23 (sO_67 hS) (congrArg (rfV G) (sR_67_7 hS)) ?_
                refine x_iload_n (dA D_X12_row 85 rfl) rfl ?_
                refine x_iconst (dA D_X12_row 86 rfl) ?_
                refine x_iadd (dA D_X12_row 87 rfl) ?_
                refine x_iald (dA D_X12_row 88 rfl) (sA_72 hS h17 h18) ?_
                refine x_aload_n (dA D_X12_row 89 rfl) rfl ?_
                refine x_get (v := vA 72) (dA D_X12_row 90 rfl) fw_RX12_23 (sO_67 hS) (congrArg (rfV G) (sR_67_7 hS)) ?_
                refine x_iload_n (dA D_X12_row 91 rfl) rfl ?_
                refine x_iconst (dA D_X12_row 92 rfl) ?_
                refine x_iadd (dA D_X12_row 93 rfl) ?_
                refine x_iald (dA D_X12_row 94 rfl) (sA_72 hS h20 h21) ?_
                refine x_callV 11 [vI (rd M 72 x3), vI (rd M 72 (x3 + 1)), vI (rd M 72 (x3 + 2))] [] (dA D_X12_row 95 rfl) cw_RX12_146 rfl rfl (Nat.le_of_ble_eq_true rfl) (by decide) rfl hd1 (zk k) (zk n) (sO_67 hS) h (kU (fun M23 h => ?_))
                obtain ⟨hM23, h⟩ := h
                refine x_iinc (xs' := [vA 67, vI x1, vI (x2 + 1), vI x3, vI v5, vI 1]) (dA D_X12_row 96 rfl) rfl (by decide) rfl ?_
                refine x_goto (tgt := 176) (dA D_X12_row 97 rfl) (by decide) ?_
                refine x_iinc (xs' := [vA 67, vI x1, vI (x2 + 1), vI (x3 + 3), vI v5, vI 1]) (dA D_X12_row 104 rfl) rfl (by decide) rfl ?_
                refine x_goto (tgt := 35) (dA D_X12_row 105 rfl) (by decide) ?_
                refine X.weak (xs' := [vA 67, vI x1, vI (x2 + 1), vI (x3 + 3), vU, vU]) ⟨Or.inl rfl, Or.inl rfl, Or.inl rfl, Or.inl rfl, Or.inr rfl, Or.inr rfl, trivial⟩ ?_
                exact h
    refine x_icmp_geP (tgt := 65) (dA D_X12_row 34 rfl) (by decide) h7 h2 ⟨fun c6 => ?_, fun c6 => ?_⟩
    · exact hA (by first | omega | grind)
    · refine x_iload (dA D_X12_row 35 rfl) rfl ?_
      refine x_iconst (dA D_X12_row 36 rfl) ?_
      refine x_icmp_geP (tgt := 65) (dA D_X12_row 37 rfl) (by decide) h11 ⟨by decide, by decide⟩ ⟨fun c10 => ?_, fun c10 => ?_⟩
      · exact hA (by first | omega | grind)
      · refine x_iconst (dA D_X12_row 38 rfl) ?_
        refine x_goto (tgt := 66) (dA D_X12_row 39 rfl) (by decide) ?_
        exact hB (by first | omega | grind)
set_option maxRecDepth 100000 in
theorem B_X12_row_65 {G : GG} {d : Nat} {k n : Nat} {x1 x2 x3 x4 : Int} {M : MM} {Q : PV → MM → Prop} (hd : 1 ≤ d) (hS : Sh M) (h : X G Y_X12_row d k n 126 [vA 67, vI x1, vI x2, vI x3, vI x4, vI 0] [] M Q) : X G Y_X12_row d k n 65 [vA 67, vI x1, vI x2, vI x3, vI x4, vU] [] M Q := by
  have hd1 : 1 ≤ d := by omega
  refine x_iconst (dA D_X12_row 40 rfl) ?_
  refine x_istore (xs' := [vA 67, vI x1, vI x2, vI x3, vI x4, vI 0]) (dA D_X12_row 41 rfl) (by decide) rfl ?_
  refine x_iload (dA D_X12_row 42 rfl) rfl ?_
  refine x_if_eqP (tgt := 126) (dA D_X12_row 43 rfl) (by decide) ⟨by decide, by decide⟩ ⟨fun c => ?_, fun c => ?_⟩
  · skip
    exact h
  · exact absurd (by decide) c
set_option maxRecDepth 100000 in
theorem B_X12_row_126 {G : GG} {d : Nat} {k n : Nat} {x1 x2 x3 x4 x5 : Int} {M : MM} {Q : PV → MM → Prop} (hd : 1 ≤ d) (hS : Sh M) (h : ∀ M1, M1 = wr M 67 6 ((rd M 67 6) + 1) → Sh M1 → X G Y_X12_row d k n 35 [vA 67, vI x1, vI x2, vI (x3 + 3), vU, vU] [] M1 Q) : X G Y_X12_row d k n 126 [vA 67, vI x1, vI x2, vI x3, vI x4, vI x5] [] M Q := by
  have hd1 : 1 ≤ d := by omega
  refine x_iconst (dA D_X12_row 74 rfl) ?_
  refine x_istore (xs' := [vA 67, vI x1, vI x2, vI x3, vI x4, vI 0]) (dA D_X12_row 75 rfl) (by decide) rfl ?_
  refine x_iload (dA D_X12_row 76 rfl) rfl ?_
  refine x_if_eqP (tgt := 166) (dA D_X12_row 77 rfl) (by decide) ⟨by decide, by decide⟩ ⟨fun c => ?_, fun c => ?_⟩
  · skip
    refine x_aload_n (dA D_X12_row 98 rfl) rfl ?_
    refine x_dup (dA D_X12_row 99 rfl) rfl ?_
    refine x_get (v := vI (rd M 67 6)) (dA D_X12_row 100 rfl) fw_RX12_171 (sO_67 hS) rfl ?_
    refine x_iconst (dA D_X12_row 101 rfl) ?_
    refine x_iadd (dA D_X12_row 102 rfl) ?_
    refine x_put (x := (rd M 67 6) + 1) (dA D_X12_row 103 rfl) fw_RX12_171 (fun _ _ hc => by cases hc; exact Or.inl rfl) (sO_67 hS) rfl rfl rfl ?_
    refine x_nmM (fun M1 eM1 => ?_)
    have hM1 : Sh M1 := eM1 ▸ (sW_67_6 hS)
    have h := h M1 eM1 hM1
    refine x_iinc (xs' := [vA 67, vI x1, vI x2, vI (x3 + 3), vI x4, vI 0]) (dA D_X12_row 104 rfl) rfl (by decide) rfl ?_
    refine x_goto (tgt := 35) (dA D_X12_row 105 rfl) (by decide) ?_
    refine X.weak (xs' := [vA 67, vI x1, vI x2, vI (x3 + 3), vU, vU]) ⟨Or.inl rfl, Or.inl rfl, Or.inl rfl, Or.inl rfl, Or.inr rfl, Or.inr rfl, trivial⟩ ?_
    exact h
  · exact absurd (by decide) c
set_option maxRecDepth 100000 in
theorem B_X12_force_0 {G : GG} {d : Nat} {k n : Nat} {x1 : Int} {M : MM} {Q : PV → MM → Prop} (hd : 3 ≤ d) (hS : Sh M) (h : ∀ M1, M1 = wr M 67 0 0 → Sh M1 → inR x1 ∧ ((x1 = (-1) → 0 ≤ (2 : Int) ∧ (2 : Int) < 5460 ∧ ∀ M5, M5 = chgM M1 (2 : Int) x1 → Sh M5 → Q (vI (rd M1 69 (2 : Int))) M5) ∧ (x1 ≠ (-1) → inR (rd M1 69 1) ∧ inL ((rd M1 69 1) - 1) ∧ ((¬ (((0 : Int) ≤ x1) ∧ (x1 ≤ ((rd M1 69 1) - 1))) → ∀ M8, M8 = telM M1 (-2 : Int) → Sh M8 → Q (vI (-2 : Int)) M8) ∧ (((0 : Int) ≤ x1) ∧ (x1 ≤ ((rd M1 69 1) - 1)) → 0 ≤ (2 : Int) ∧ (2 : Int) < 5460 ∧ ∀ M11, M11 = chgM M1 (2 : Int) x1 → Sh M11 → Q (vI (rd M1 69 (2 : Int))) M11))))) : X G Y_X12_force d k n 0 [vA 67, vI x1] [] M Q := by
  have hd1 : 1 ≤ d := by omega
  refine x_aload_n (dA D_X12_force 0 rfl) rfl ?_
  refine x_iconst (dA D_X12_force 1 rfl) ?_
  refine x_put (x := 0) (dA D_X12_force 2 rfl) fw_RX12_115 (fun _ _ hc => by cases hc; exact Or.inl rfl) (sO_67 hS) rfl rfl rfl ?_
  refine x_nmM (fun M1 eM1 => ?_)
  have hM1 : Sh M1 := eM1 ▸ (sW_67_0 hS)
  have h := h M1 eM1 hM1
  refine x_iload_n (dA D_X12_force 3 rfl) rfl ?_
  refine x_iconst (dA D_X12_force 4 rfl) ?_
  obtain ⟨h2, h⟩ := h
  refine x_icmp_eqP (tgt := 28) (dA D_X12_force 5 rfl) (by decide) h2 ⟨by decide, by decide⟩ ⟨fun c => ?_, fun c => ?_⟩
  · have h := h.1 c
    refine x_aload_n (dA D_X12_force 18 rfl) rfl ?_
    refine x_iconst (dA D_X12_force 19 rfl) ?_
    refine x_iload_n (dA D_X12_force 20 rfl) rfl ?_
    obtain ⟨h3, h⟩ := h
    obtain ⟨h4, h⟩ := h
    refine x_callV 11 [vI 2, vI x1] [] (dA D_X12_force 21 rfl) cw_RX12_154 rfl rfl (Nat.le_of_ble_eq_true rfl) (by decide) rfl hd1 (zk k) (zk n) (sO_67 hM1) (S_X12_change hM1 h3 h4 (by omega) ?_) (kI (fun _ _ h => h))
    refine x_nmM (fun M5 eM5 => ?_)
    have hM5 : Sh M5 := eM5 ▸ (sChg hM1)
    have h := h M5 eM5 hM5
    show X G Y_X12_force d k n 34 [vA 67, vI x1] [vI (rd M1 69 (2 : Int))] M5 Q
    refine x_goto (tgt := 43) (dA D_X12_force 22 rfl) (by decide) ?_
    exact x_ireturn (dA D_X12_force 26 rfl) rfl h
  · have h := h.2 c
    refine x_iload_n (dA D_X12_force 6 rfl) rfl ?_
    refine x_i2l (dA D_X12_force 7 rfl) h2 ?_
    refine x_lconst (a := 0) (dA D_X12_force 8 rfl) (by decide) ?_
    refine x_aload_n (dA D_X12_force 9 rfl) rfl ?_
    refine x_get (v := vA 69) (dA D_X12_force 10 rfl) fw_RX12_13 (sO_67 hM1) (congrArg (rfV G) (sR_67_3 hM1)) ?_
    refine x_iconst (dA D_X12_force 11 rfl) ?_
    refine x_iald (dA D_X12_force 12 rfl) (sA_69 hM1 (by decide) (by decide)) ?_
    obtain ⟨h6, h⟩ := h
    refine x_i2l (dA D_X12_force 13 rfl) h6 ?_
    refine x_lconst (a := 1) (dA D_X12_force 14 rfl) (by decide) ?_
    refine x_lsub (dA D_X12_force 15 rfl) ?_
    obtain ⟨h7, h⟩ := h
    refine x_callS [vL x1, vL 0, vL ((rd M1 69 1) - 1)] [] (dA D_X12_force 16 rfl) cw_RX12_125 rfl rfl (Nat.le_of_ble_eq_true rfl) hd1 (zk k) (zk n) (S_X12_in (inR_L h2) ⟨by decide, by decide⟩ h7 (by omega) ?_) (kI (fun _ _ h => h))
    show X G Y_X12_force d k n 25 [vA 67, vI x1] [vI (if ((0 : Int) ≤ x1) ∧ (x1 ≤ ((rd M1 69 1) - 1)) then 1 else 0)] M1 Q
    refine x_if_eqB (tgt := 37) (dA D_X12_force 17 rfl) (by decide) ⟨fun c => ?_, fun c => ?_⟩
    · have h := h.1 c
      refine x_aload_n (dA D_X12_force 23 rfl) rfl ?_
      refine x_bipush (dA D_X12_force 24 rfl) (by decide) (by decide) ?_
      refine x_callV 11 [vI (-2)] [] (dA D_X12_force 25 rfl) cw_RX12_129 rfl rfl (Nat.le_of_ble_eq_true rfl) (by decide) rfl hd1 (zk k) (zk n) (sO_67 hM1) (S_X12_tell hM1 ⟨by decide, by decide, by decide⟩ (by omega) ?_) (kI (fun _ _ h => h))
      refine x_nmM (fun M8 eM8 => ?_)
      have hM8 : Sh M8 := eM8 ▸ (sTel hM1)
      have h := h M8 eM8 hM8
      show X G Y_X12_force d k n 43 [vA 67, vI x1] [vI (-2 : Int)] M8 Q
      exact x_ireturn (dA D_X12_force 26 rfl) rfl h
    · have h := h.2 c
      refine x_aload_n (dA D_X12_force 18 rfl) rfl ?_
      refine x_iconst (dA D_X12_force 19 rfl) ?_
      refine x_iload_n (dA D_X12_force 20 rfl) rfl ?_
      obtain ⟨h9, h⟩ := h
      obtain ⟨h10, h⟩ := h
      refine x_callV 11 [vI 2, vI x1] [] (dA D_X12_force 21 rfl) cw_RX12_154 rfl rfl (Nat.le_of_ble_eq_true rfl) (by decide) rfl hd1 (zk k) (zk n) (sO_67 hM1) (S_X12_change hM1 h9 h10 (by omega) ?_) (kI (fun _ _ h => h))
      refine x_nmM (fun M11 eM11 => ?_)
      have hM11 : Sh M11 := eM11 ▸ (sChg hM1)
      have h := h M11 eM11 hM11
      show X G Y_X12_force d k n 34 [vA 67, vI x1] [vI (rd M1 69 (2 : Int))] M11 Q
      refine x_goto (tgt := 43) (dA D_X12_force 22 rfl) (by decide) ?_
      exact x_ireturn (dA D_X12_force 26 rfl) rfl h
theorem C_X12_force {G : GG} {d : Nat} {x1 : Int} {M : MM} {Q : PV → MM → Prop} (h : X G Y_X12_force d 0 0 0 [vA 67, vI x1] [] M Q) : C G Y_X12_force d 0 0 [vA 67, vI x1] M Q := X.entry (by decide) (Nat.le_of_ble_eq_true rfl) rfl rfl rfl h
set_option maxRecDepth 100000 in
theorem B_X12_asks_0 {G : GG} {d : Nat} {k n : Nat} {x1 x2 x3 x4 x5 x6 x7 x8 : Int} {M : MM} {Q : PV → MM → Prop} (hd : 3 ≤ d) (hS : Sh M) (h : ∀ M1, M1 = wr M 67 0 0 → Sh M1 → inR x1 ∧ ((¬ (((0 : Int) ≤ x1) ∧ (x1 ≤ (1 : Int))) → X G Y_X12_asks d k n 52 [vA 67, vI x1, vI x2, vI x3, vI x4, vI x5, vI x6, vI x7, vI x8, vU] [] M1 Q) ∧ (((0 : Int) ≤ x1) ∧ (x1 ≤ (1 : Int)) → inR x2 ∧ ((¬ (((0 : Int) ≤ x2) ∧ (x2 ≤ (1 : Int))) → X G Y_X12_asks d k n 52 [vA 67, vI x1, vI x2, vI x3, vI x4, vI x5, vI x6, vI x7, vI x8, vU] [] M1 Q) ∧ (((0 : Int) ≤ x2) ∧ (x2 ≤ (1 : Int)) → inR x3 ∧ inR (rd M1 69 0) ∧ inL ((rd M1 69 0) - 1) ∧ ((¬ (((0 : Int) ≤ x3) ∧ (x3 ≤ ((rd M1 69 0) - 1))) → X G Y_X12_asks d k n 52 [vA 67, vI x1, vI x2, vI x3, vI x4, vI x5, vI x6, vI x7, vI x8, vU] [] M1 Q) ∧ (((0 : Int) ≤ x3) ∧ (x3 ≤ ((rd M1 69 0) - 1)) → inR x4 ∧ ((x4 = (-1) → X G Y_X12_asks d k n 48 [vA 67, vI x1, vI x2, vI x3, vI x4, vI x5, vI x6, vI x7, vI x8, vU] [] M1 Q) ∧ (x4 ≠ (-1) → ((¬ (((0 : Int) ≤ x4) ∧ (x4 ≤ ((rd M1 69 0) - 1))) → X G Y_X12_asks d k n 52 [vA 67, vI x1, vI x2, vI x3, vI x4, vI x5, vI x6, vI x7, vI x8, vU] [] M1 Q) ∧ (((0 : Int) ≤ x4) ∧ (x4 ≤ ((rd M1 69 0) - 1)) → X G Y_X12_asks d k n 48 [vA 67, vI x1, vI x2, vI x3, vI x4, vI x5, vI x6, vI x7, vI x8, vU] [] M1 Q))))))))))) : X G Y_X12_asks d k n 0 [vA 67, vI x1, vI x2, vI x3, vI x4, vI x5, vI x6, vI x7, vI x8, vU] [] M Q := by
  have hd1 : 1 ≤ d := by omega
  refine x_aload_n (dA D_X12_asks 0 rfl) rfl ?_
  refine x_iconst (dA D_X12_asks 1 rfl) ?_
  refine x_put (x := 0) (dA D_X12_asks 2 rfl) fw_RX12_115 (fun _ _ hc => by cases hc; exact Or.inl rfl) (sO_67 hS) rfl rfl rfl ?_
  refine x_nmM (fun M1 eM1 => ?_)
  have hM1 : Sh M1 := eM1 ▸ (sW_67_0 hS)
  have h := h M1 eM1 hM1
  refine x_iload_n (dA D_X12_asks 3 rfl) rfl ?_
  obtain ⟨h2, h⟩ := h
  refine x_i2l (dA D_X12_asks 4 rfl) h2 ?_
  refine x_lconst (a := 0) (dA D_X12_asks 5 rfl) (by decide) ?_
  refine x_lconst (a := 1) (dA D_X12_asks 6 rfl) (by decide) ?_
  refine x_callS [vL x1, vL 0, vL 1] [] (dA D_X12_asks 7 rfl) cw_RX12_125 rfl rfl (Nat.le_of_ble_eq_true rfl) hd1 (zk k) (zk n) (S_X12_in (inR_L h2) ⟨by decide, by decide⟩ ⟨by decide, by decide⟩ (by omega) ?_) (kI (fun _ _ h => h))
  show X G Y_X12_asks d k n 12 [vA 67, vI x1, vI x2, vI x3, vI x4, vI x5, vI x6, vI x7, vI x8, vU] [vI (if ((0 : Int) ≤ x1) ∧ (x1 ≤ (1 : Int)) then 1 else 0)] M1 Q
  refine x_if_eqB (tgt := 52) (dA D_X12_asks 8 rfl) (by decide) ⟨fun c => ?_, fun c => ?_⟩
  · have h := h.1 c
    exact h
  · have h := h.2 c
    refine x_iload_n (dA D_X12_asks 9 rfl) rfl ?_
    obtain ⟨h3, h⟩ := h
    refine x_i2l (dA D_X12_asks 10 rfl) h3 ?_
    refine x_lconst (a := 0) (dA D_X12_asks 11 rfl) (by decide) ?_
    refine x_lconst (a := 1) (dA D_X12_asks 12 rfl) (by decide) ?_
    refine x_callS [vL x2, vL 0, vL 1] [] (dA D_X12_asks 13 rfl) cw_RX12_125 rfl rfl (Nat.le_of_ble_eq_true rfl) hd1 (zk k) (zk n) (S_X12_in (inR_L h3) ⟨by decide, by decide⟩ ⟨by decide, by decide⟩ (by omega) ?_) (kI (fun _ _ h => h))
    show X G Y_X12_asks d k n 22 [vA 67, vI x1, vI x2, vI x3, vI x4, vI x5, vI x6, vI x7, vI x8, vU] [vI (if ((0 : Int) ≤ x2) ∧ (x2 ≤ (1 : Int)) then 1 else 0)] M1 Q
    refine x_if_eqB (tgt := 52) (dA D_X12_asks 14 rfl) (by decide) ⟨fun c => ?_, fun c => ?_⟩
    · have h := h.1 c
      exact h
    · have h := h.2 c
      refine x_aload_n (dA D_X12_asks 15 rfl) rfl ?_
      refine x_iload_n (dA D_X12_asks 16 rfl) rfl ?_
      obtain ⟨h4, h⟩ := h
      obtain ⟨h5, h⟩ := h
      obtain ⟨h6, h⟩ := h
      refine x_callV 11 [vI x3] [] (dA D_X12_asks 17 rfl) cw_RX12_150 rfl rfl (Nat.le_of_ble_eq_true rfl) (by decide) rfl hd1 (zk k) (zk n) (sO_67 hM1) (S_X12_isScene hM1 h4 h5 h6 (by omega) ?_) (kI (fun _ _ h => h))
      show X G Y_X12_asks d k n 30 [vA 67, vI x1, vI x2, vI x3, vI x4, vI x5, vI x6, vI x7, vI x8, vU] [vI (if ((0 : Int) ≤ x3) ∧ (x3 ≤ ((rd M1 69 0) - 1)) then 1 else 0)] M1 Q
      refine x_if_eqB (tgt := 52) (dA D_X12_asks 18 rfl) (by decide) ⟨fun c => ?_, fun c => ?_⟩
      · have h := h.1 c
        exact h
      · have h := h.2 c
        refine x_iload (dA D_X12_asks 19 rfl) rfl ?_
        refine x_iconst (dA D_X12_asks 20 rfl) ?_
        obtain ⟨h7, h⟩ := h
        refine x_icmp_eqP (tgt := 48) (dA D_X12_asks 21 rfl) (by decide) h7 ⟨by decide, by decide⟩ ⟨fun c => ?_, fun c => ?_⟩
        · have h := h.1 c
          exact h
        · have h := h.2 c
          refine x_aload_n (dA D_X12_asks 22 rfl) rfl ?_
          refine x_iload (dA D_X12_asks 23 rfl) rfl ?_
          refine x_callV 11 [vI x4] [] (dA D_X12_asks 24 rfl) cw_RX12_150 rfl rfl (Nat.le_of_ble_eq_true rfl) (by decide) rfl hd1 (zk k) (zk n) (sO_67 hM1) (S_X12_isScene hM1 h7 h5 h6 (by omega) ?_) (kI (fun _ _ h => h))
          show X G Y_X12_asks d k n 45 [vA 67, vI x1, vI x2, vI x3, vI x4, vI x5, vI x6, vI x7, vI x8, vU] [vI (if ((0 : Int) ≤ x4) ∧ (x4 ≤ ((rd M1 69 0) - 1)) then 1 else 0)] M1 Q
          refine x_if_eqB (tgt := 52) (dA D_X12_asks 25 rfl) (by decide) ⟨fun c => ?_, fun c => ?_⟩
          · have h := h.1 c
            exact h
          · have h := h.2 c
            exact h
theorem C_X12_asks {G : GG} {d : Nat} {x1 x2 x3 x4 x5 x6 x7 x8 : Int} {M : MM} {Q : PV → MM → Prop} (h : X G Y_X12_asks d 0 0 0 [vA 67, vI x1, vI x2, vI x3, vI x4, vI x5, vI x6, vI x7, vI x8, vU] [] M Q) : C G Y_X12_asks d 0 0 [vA 67, vI x1, vI x2, vI x3, vI x4, vI x5, vI x6, vI x7, vI x8] M Q := X.entry (by decide) (Nat.le_of_ble_eq_true rfl) rfl rfl rfl h
set_option maxRecDepth 100000 in
theorem B_X12_asks_48 {G : GG} {d : Nat} {k n : Nat} {x1 x2 x3 x4 x5 x6 x7 x8 : Int} {sm : Int → LSm} {M : MM} {Q : PV → MM → Prop} (hd : 6 ≤ d) (hS : Sh M) (h : inR x5 ∧ ((¬ (((0 : Int) ≤ x5) ∧ (x5 ≤ (5 : Int))) → X G Y_X12_asks d k n 116 [vA 67, vI x1, vI x2, vI x3, vI x4, vI x5, vI x6, vI x7, vI x8, vI 1] [] M Q) ∧ (((0 : Int) ≤ x5) ∧ (x5 ≤ (5 : Int)) → inR x6 ∧ ((¬ (((0 : Int) ≤ x6) ∧ (x6 ≤ (5 : Int))) → X G Y_X12_asks d k n 116 [vA 67, vI x1, vI x2, vI x3, vI x4, vI x5, vI x6, vI x7, vI x8, vI 1] [] M Q) ∧ (((0 : Int) ≤ x6) ∧ (x6 ≤ (5 : Int)) → inR x7 ∧ ((¬ (((0 : Int) ≤ x7) ∧ (x7 ≤ (300 : Int))) → X G Y_X12_asks d k n 116 [vA 67, vI x1, vI x2, vI x3, vI x4, vI x5, vI x6, vI x7, vI x8, vI 1] [] M Q) ∧ (((0 : Int) ≤ x7) ∧ (x7 ≤ (300 : Int)) → inR x8 ∧ ((¬ (((0 : Int) ≤ x8) ∧ (x8 ≤ (4 : Int))) → X G Y_X12_asks d k n 116 [vA 67, vI x1, vI x2, vI x3, vI x4, vI x5, vI x6, vI x7, vI x8, vI 1] [] M Q) ∧ (((0 : Int) ≤ x8) ∧ (x8 ≤ (4 : Int)) → inR x2 ∧ MOK M sm ∧ ((x1 = 0 ∨ x1 = 1)) ∧ FR (fcts x2 x3 x4 (x5 + x6) (if x2 ≠ 0 then x6 else x5) x7 x8) ∧ ∀ r14 M13, (Fr KA M M13 ∧ r14 = askV (rd M 69) sm (fcts x2 x3 x4 (x5 + x6) (if x2 ≠ 0 then x6 else x5) x7 x8) x1) → Sh M13 → Q (vI r14) M13))))))))) : X G Y_X12_asks d k n 48 [vA 67, vI x1, vI x2, vI x3, vI x4, vI x5, vI x6, vI x7, vI x8, vU] [] M Q := by
  have hd1 : 1 ≤ d := by omega
  refine x_iconst (dA D_X12_asks 26 rfl) ?_
  refine x_goto (tgt := 53) (dA D_X12_asks 27 rfl) (by decide) ?_
  refine x_istore (xs' := [vA 67, vI x1, vI x2, vI x3, vI x4, vI x5, vI x6, vI x7, vI x8, vI 1]) (dA D_X12_asks 29 rfl) (by decide) rfl ?_
  refine x_iload (dA D_X12_asks 30 rfl) rfl ?_
  refine x_if_eqP (tgt := 116) (dA D_X12_asks 31 rfl) (by decide) ⟨by decide, by decide⟩ ⟨fun c => ?_, fun c => ?_⟩
  · exact absurd c (by decide)
  · skip
    refine x_iload (dA D_X12_asks 32 rfl) rfl ?_
    obtain ⟨h1, h⟩ := h
    refine x_i2l (dA D_X12_asks 33 rfl) h1 ?_
    refine x_lconst (a := 0) (dA D_X12_asks 34 rfl) (by decide) ?_
    refine x_ldc2 (a := 5) (dA D_X12_asks 35 rfl) kl_RX12_162 (by decide) ?_
    refine x_callS [vL x5, vL 0, vL 5] [] (dA D_X12_asks 36 rfl) cw_RX12_125 rfl rfl (Nat.le_of_ble_eq_true rfl) hd1 (zk k) (zk n) (S_X12_in (inR_L h1) ⟨by decide, by decide⟩ ⟨by decide, by decide⟩ (by omega) ?_) (kI (fun _ _ h => h))
    show X G Y_X12_asks d k n 70 [vA 67, vI x1, vI x2, vI x3, vI x4, vI x5, vI x6, vI x7, vI x8, vI 1] [vI (if ((0 : Int) ≤ x5) ∧ (x5 ≤ (5 : Int)) then 1 else 0)] M Q
    refine x_if_eqB (tgt := 116) (dA D_X12_asks 37 rfl) (by decide) ⟨fun c => ?_, fun c => ?_⟩
    · have h := h.1 c
      exact h
    · have h := h.2 c
      refine x_iload (dA D_X12_asks 38 rfl) rfl ?_
      obtain ⟨h2, h⟩ := h
      refine x_i2l (dA D_X12_asks 39 rfl) h2 ?_
      refine x_lconst (a := 0) (dA D_X12_asks 40 rfl) (by decide) ?_
      refine x_ldc2 (a := 5) (dA D_X12_asks 41 rfl) kl_RX12_162 (by decide) ?_
      refine x_callS [vL x6, vL 0, vL 5] [] (dA D_X12_asks 42 rfl) cw_RX12_125 rfl rfl (Nat.le_of_ble_eq_true rfl) hd1 (zk k) (zk n) (S_X12_in (inR_L h2) ⟨by decide, by decide⟩ ⟨by decide, by decide⟩ (by omega) ?_) (kI (fun _ _ h => h))
      show X G Y_X12_asks d k n 83 [vA 67, vI x1, vI x2, vI x3, vI x4, vI x5, vI x6, vI x7, vI x8, vI 1] [vI (if ((0 : Int) ≤ x6) ∧ (x6 ≤ (5 : Int)) then 1 else 0)] M Q
      refine x_if_eqB (tgt := 116) (dA D_X12_asks 43 rfl) (by decide) ⟨fun c => ?_, fun c => ?_⟩
      · have h := h.1 c
        exact h
      · have h := h.2 c
        refine x_iload (dA D_X12_asks 44 rfl) rfl ?_
        obtain ⟨h3, h⟩ := h
        refine x_i2l (dA D_X12_asks 45 rfl) h3 ?_
        refine x_lconst (a := 0) (dA D_X12_asks 46 rfl) (by decide) ?_
        refine x_ldc2 (a := 300) (dA D_X12_asks 47 rfl) kl_RX12_166 (by decide) ?_
        refine x_callS [vL x7, vL 0, vL 300] [] (dA D_X12_asks 48 rfl) cw_RX12_125 rfl rfl (Nat.le_of_ble_eq_true rfl) hd1 (zk k) (zk n) (S_X12_in (inR_L h3) ⟨by decide, by decide⟩ ⟨by decide, by decide⟩ (by omega) ?_) (kI (fun _ _ h => h))
        show X G Y_X12_asks d k n 96 [vA 67, vI x1, vI x2, vI x3, vI x4, vI x5, vI x6, vI x7, vI x8, vI 1] [vI (if ((0 : Int) ≤ x7) ∧ (x7 ≤ (300 : Int)) then 1 else 0)] M Q
        refine x_if_eqB (tgt := 116) (dA D_X12_asks 49 rfl) (by decide) ⟨fun c => ?_, fun c => ?_⟩
        · have h := h.1 c
          exact h
        · have h := h.2 c
          refine x_iload (dA D_X12_asks 50 rfl) rfl ?_
          obtain ⟨h4, h⟩ := h
          refine x_i2l (dA D_X12_asks 51 rfl) h4 ?_
          refine x_lconst (a := 0) (dA D_X12_asks 52 rfl) (by decide) ?_
          refine x_ldc2 (a := 4) (dA D_X12_asks 53 rfl) kl_RX12_136 (by decide) ?_
          refine x_callS [vL x8, vL 0, vL 4] [] (dA D_X12_asks 54 rfl) cw_RX12_125 rfl rfl (Nat.le_of_ble_eq_true rfl) hd1 (zk k) (zk n) (S_X12_in (inR_L h4) ⟨by decide, by decide⟩ ⟨by decide, by decide⟩ (by omega) ?_) (kI (fun _ _ h => h))
          show X G Y_X12_asks d k n 109 [vA 67, vI x1, vI x2, vI x3, vI x4, vI x5, vI x6, vI x7, vI x8, vI 1] [vI (if ((0 : Int) ≤ x8) ∧ (x8 ≤ (4 : Int)) then 1 else 0)] M Q
          refine x_if_eqB (tgt := 116) (dA D_X12_asks 55 rfl) (by decide) ⟨fun c => ?_, fun c => ?_⟩
          · have h := h.1 c
            exact h
          · have h := h.2 c
            refine x_iconst (dA D_X12_asks 56 rfl) ?_
            refine x_goto (tgt := 117) (dA D_X12_asks 57 rfl) (by decide) ?_
            refine x_istore (xs' := [vA 67, vI x1, vI x2, vI x3, vI x4, vI x5, vI x6, vI x7, vI x8, vI 1]) (dA D_X12_asks 59 rfl) (by decide) rfl ?_
            refine x_iload (dA D_X12_asks 60 rfl) rfl ?_
            refine x_if_eqP (tgt := 156) (dA D_X12_asks 61 rfl) (by decide) ⟨by decide, by decide⟩ ⟨fun c => ?_, fun c => ?_⟩
            · exact absurd c (by decide)
            · skip
              refine x_aload_n (dA D_X12_asks 62 rfl) rfl ?_
              refine x_iload_n (dA D_X12_asks 63 rfl) rfl ?_
              refine x_iload_n (dA D_X12_asks 64 rfl) rfl ?_
              refine x_iload_n (dA D_X12_asks 65 rfl) rfl ?_
              refine x_iload (dA D_X12_asks 66 rfl) rfl ?_
              refine x_iload (dA D_X12_asks 67 rfl) rfl ?_
              refine x_iload (dA D_X12_asks 68 rfl) rfl ?_
              refine x_iadd (dA D_X12_asks 69 rfl) ?_
              refine x_iload_n (dA D_X12_asks 70 rfl) rfl ?_
              obtain ⟨h6, h⟩ := h
              have hJ : X G Y_X12_asks d k n 146 [vA 67, vI x1, vI x2, vI x3, vI x4, vI x5, vI x6, vI x7, vI x8, vI 1] [vI (if x2 ≠ 0 then x6 else x5), vI (x5 + x6), vI x4, vI x3, vI x2, vI x1, vA 67] M Q := by
                refine x_iload (dA D_X12_asks 75 rfl) rfl ?_
                refine x_iload (dA D_X12_asks 76 rfl) rfl ?_
                obtain ⟨h10, h⟩ := h
                obtain ⟨h11, h⟩ := h
                obtain ⟨h12, h⟩ := h
                refine x_callV 11 [vI x1, vI x2, vI x3, vI x4, vI (x5 + x6), vI (if x2 ≠ 0 then x6 else x5), vI x7, vI x8] [] (dA D_X12_asks 77 rfl) cw_RX12_346 rfl rfl (Nat.le_of_ble_eq_true rfl) (by decide) rfl hd1 (zk k) (zk n) (sO_67 hS) (T_X12_ask hS h10 h11 h12 (by omega) (fun r14 M13 p15 hM13 => ?_)) (kI (fun _ _ h => h))
                have h := h r14 M13 p15 hM13
                show X G Y_X12_asks d k n 153 [vA 67, vI x1, vI x2, vI x3, vI x4, vI x5, vI x6, vI x7, vI x8, vI 1] [vI r14] M13 Q
                refine x_goto (tgt := 157) (dA D_X12_asks 78 rfl) (by decide) ?_
                exact x_ireturn (dA D_X12_asks 80 rfl) rfl h
              refine x_if_neP (tgt := 144) (dA D_X12_asks 71 rfl) (by decide) h6 ⟨fun c5 => ?_, fun c5 => ?_⟩
              · refine x_iload (dA D_X12_asks 74 rfl) rfl ?_
                rw [if_pos c5] at hJ
                exact hJ
              · refine x_iload (dA D_X12_asks 72 rfl) rfl ?_
                refine x_goto (tgt := 146) (dA D_X12_asks 73 rfl) (by decide) ?_
                rw [if_neg (by first | omega | grind)] at hJ
                exact hJ
set_option maxRecDepth 100000 in
theorem B_X12_asks_52 {G : GG} {d : Nat} {k n : Nat} {x1 x2 x3 x4 x5 x6 x7 x8 : Int} {M : MM} {Q : PV → MM → Prop} (hd : 1 ≤ d) (hS : Sh M) (h : X G Y_X12_asks d k n 116 [vA 67, vI x1, vI x2, vI x3, vI x4, vI x5, vI x6, vI x7, vI x8, vI 0] [] M Q) : X G Y_X12_asks d k n 52 [vA 67, vI x1, vI x2, vI x3, vI x4, vI x5, vI x6, vI x7, vI x8, vU] [] M Q := by
  have hd1 : 1 ≤ d := by omega
  refine x_iconst (dA D_X12_asks 28 rfl) ?_
  refine x_istore (xs' := [vA 67, vI x1, vI x2, vI x3, vI x4, vI x5, vI x6, vI x7, vI x8, vI 0]) (dA D_X12_asks 29 rfl) (by decide) rfl ?_
  refine x_iload (dA D_X12_asks 30 rfl) rfl ?_
  refine x_if_eqP (tgt := 116) (dA D_X12_asks 31 rfl) (by decide) ⟨by decide, by decide⟩ ⟨fun c => ?_, fun c => ?_⟩
  · skip
    exact h
  · exact absurd (by decide) c
set_option maxRecDepth 100000 in
theorem B_X12_asks_116 {G : GG} {d : Nat} {k n : Nat} {x1 x2 x3 x4 x5 x6 x7 x8 x9 : Int} {M : MM} {Q : PV → MM → Prop} (hd : 1 ≤ d) (hS : Sh M) (h : Q (vI (-1)) M) : X G Y_X12_asks d k n 116 [vA 67, vI x1, vI x2, vI x3, vI x4, vI x5, vI x6, vI x7, vI x8, vI x9] [] M Q := by
  have hd1 : 1 ≤ d := by omega
  refine x_iconst (dA D_X12_asks 58 rfl) ?_
  refine x_istore (xs' := [vA 67, vI x1, vI x2, vI x3, vI x4, vI x5, vI x6, vI x7, vI x8, vI 0]) (dA D_X12_asks 59 rfl) (by decide) rfl ?_
  refine x_iload (dA D_X12_asks 60 rfl) rfl ?_
  refine x_if_eqP (tgt := 156) (dA D_X12_asks 61 rfl) (by decide) ⟨by decide, by decide⟩ ⟨fun c => ?_, fun c => ?_⟩
  · skip
    refine x_iconst (dA D_X12_asks 79 rfl) ?_
    exact x_ireturn (dA D_X12_asks 80 rfl) rfl h
  · exact absurd (by decide) c
set_option maxRecDepth 100000 in
theorem B_X12_can_0 {G : GG} {d : Nat} {k n : Nat} {x1 : Int} {M : MM} {Q : PV → MM → Prop} (hd : 4 ≤ d) (hS : Sh M) (h : ∀ M1, M1 = wr M 67 0 0 → Sh M1 → inR x1 ∧ inL ((iShl 1 (rd M1 69 0)) - 1) ∧ ((¬ (((0 : Int) ≤ x1) ∧ (x1 ≤ ((iShl 1 (rd M1 69 0)) - 1))) → Q (vI (-1)) M1) ∧ (((0 : Int) ≤ x1) ∧ (x1 ≤ ((iShl 1 (rd M1 69 0)) - 1)) → RS (rd M1 69) ∧ (0 ≤ x1 ∧ x1 < 32) ∧ Q (vI (canB (rd M1 69) x1)) M1))) : X G Y_X12_can d k n 0 [vA 67, vI x1] [] M Q := by
  have hd1 : 1 ≤ d := by omega
  refine x_aload_n (dA D_X12_can 0 rfl) rfl ?_
  refine x_iconst (dA D_X12_can 1 rfl) ?_
  refine x_put (x := 0) (dA D_X12_can 2 rfl) fw_RX12_115 (fun _ _ hc => by cases hc; exact Or.inl rfl) (sO_67 hS) rfl rfl rfl ?_
  refine x_nmM (fun M1 eM1 => ?_)
  have hM1 : Sh M1 := eM1 ▸ (sW_67_0 hS)
  have h := h M1 eM1 hM1
  refine x_iload_n (dA D_X12_can 3 rfl) rfl ?_
  obtain ⟨h2, h⟩ := h
  refine x_i2l (dA D_X12_can 4 rfl) h2 ?_
  refine x_lconst (a := 0) (dA D_X12_can 5 rfl) (by decide) ?_
  refine x_iconst (dA D_X12_can 6 rfl) ?_
  refine x_aload_n (dA D_X12_can 7 rfl) rfl ?_
  refine x_get (v := vA 69) (dA D_X12_can 8 rfl) fw_RX12_13 (sO_67 hM1) (congrArg (rfV G) (sR_67_3 hM1)) ?_
  refine x_iconst (dA D_X12_can 9 rfl) ?_
  refine x_iald (dA D_X12_can 10 rfl) (sA_69 hM1 (by decide) (by decide)) ?_
  refine x_ishl (dA D_X12_can 11 rfl) ?_
  refine x_i2l (dA D_X12_can 12 rfl) (inR_iShl _ _) ?_
  refine x_lconst (a := 1) (dA D_X12_can 13 rfl) (by decide) ?_
  refine x_lsub (dA D_X12_can 14 rfl) ?_
  obtain ⟨h3, h⟩ := h
  refine x_callS [vL x1, vL 0, vL ((iShl 1 (rd M1 69 0)) - 1)] [] (dA D_X12_can 15 rfl) cw_RX12_125 rfl rfl (Nat.le_of_ble_eq_true rfl) hd1 (zk k) (zk n) (S_X12_in (inR_L h2) ⟨by decide, by decide⟩ h3 (by omega) ?_) (kI (fun _ _ h => h))
  show X G Y_X12_can d k n 22 [vA 67, vI x1] [vI (if ((0 : Int) ≤ x1) ∧ (x1 ≤ ((iShl 1 (rd M1 69 0)) - 1)) then 1 else 0)] M1 Q
  refine x_if_eqB (tgt := 33) (dA D_X12_can 16 rfl) (by decide) ⟨fun c => ?_, fun c => ?_⟩
  · have h := h.1 c
    refine x_iconst (dA D_X12_can 21 rfl) ?_
    exact x_ireturn (dA D_X12_can 22 rfl) rfl h
  · have h := h.2 c
    refine x_aload_n (dA D_X12_can 17 rfl) rfl ?_
    refine x_iload_n (dA D_X12_can 18 rfl) rfl ?_
    obtain ⟨h4, h⟩ := h
    obtain ⟨h5, h⟩ := h
    refine x_callV 11 [vI x1] [] (dA D_X12_can 19 rfl) cw_RX12_356 rfl rfl (Nat.le_of_ble_eq_true rfl) (by decide) rfl hd1 (zk k) (zk n) (sO_67 hM1) (S_X12_canBe hM1 h4 h5 (by omega) ?_) (kI (fun _ _ h => h))
    show X G Y_X12_can d k n 30 [vA 67, vI x1] [vI (canB (rd M1 69) x1)] M1 Q
    refine x_goto (tgt := 34) (dA D_X12_can 20 rfl) (by decide) ?_
    exact x_ireturn (dA D_X12_can 22 rfl) rfl h
theorem C_X12_can {G : GG} {d : Nat} {x1 : Int} {M : MM} {Q : PV → MM → Prop} (h : X G Y_X12_can d 0 0 0 [vA 67, vI x1] [] M Q) : C G Y_X12_can d 0 0 [vA 67, vI x1] M Q := X.entry (by decide) (Nat.le_of_ble_eq_true rfl) rfl rfl rfl h
set_option maxRecDepth 100000 in
theorem B_X12_book_0 {G : GG} {d : Nat} {k n : Nat} {x1 : Int} {M : MM} {Q : PV → MM → Prop} (hd : 3 ≤ d) (hS : Sh M) (h : ∀ M1, M1 = wr M 67 0 0 → Sh M1 → inR x1 ∧ inR (rd M1 69 0) ∧ inL ((rd M1 69 0) - 1) ∧ ((((0 : Int) ≤ x1) ∧ (x1 ≤ ((rd M1 69 0) - 1)) → X G Y_X12_book d k n 22 [vA 67, vI x1, vI 0] [] M1 Q) ∧ (¬ (((0 : Int) ≤ x1) ∧ (x1 ≤ ((rd M1 69 0) - 1))) → ∀ M5, M5 = telM M1 (-2 : Int) → Sh M5 → Q (vI (-2 : Int)) M5))) : X G Y_X12_book d k n 0 [vA 67, vI x1, vU] [] M Q := by
  have hd1 : 1 ≤ d := by omega
  refine x_aload_n (dA D_X12_book 0 rfl) rfl ?_
  refine x_iconst (dA D_X12_book 1 rfl) ?_
  refine x_put (x := 0) (dA D_X12_book 2 rfl) fw_RX12_115 (fun _ _ hc => by cases hc; exact Or.inl rfl) (sO_67 hS) rfl rfl rfl ?_
  refine x_nmM (fun M1 eM1 => ?_)
  have hM1 : Sh M1 := eM1 ▸ (sW_67_0 hS)
  have h := h M1 eM1 hM1
  refine x_aload_n (dA D_X12_book 3 rfl) rfl ?_
  refine x_iload_n (dA D_X12_book 4 rfl) rfl ?_
  obtain ⟨h2, h⟩ := h
  obtain ⟨h3, h⟩ := h
  obtain ⟨h4, h⟩ := h
  refine x_callV 11 [vI x1] [] (dA D_X12_book 5 rfl) cw_RX12_150 rfl rfl (Nat.le_of_ble_eq_true rfl) (by decide) rfl hd1 (zk k) (zk n) (sO_67 hM1) (S_X12_isScene hM1 h2 h3 h4 (by omega) ?_) (kI (fun _ _ h => h))
  show X G Y_X12_book d k n 10 [vA 67, vI x1, vU] [vI (if ((0 : Int) ≤ x1) ∧ (x1 ≤ ((rd M1 69 0) - 1)) then 1 else 0)] M1 Q
  refine x_if_neB (tgt := 20) (dA D_X12_book 6 rfl) (by decide) ⟨fun c => ?_, fun c => ?_⟩
  · have h := h.1 c
    refine x_iconst (dA D_X12_book 11 rfl) ?_
    refine x_istore_n (xs' := [vA 67, vI x1, vI 0]) (dA D_X12_book 12 rfl) (by decide) rfl ?_
    exact h
  · have h := h.2 c
    refine x_aload_n (dA D_X12_book 7 rfl) rfl ?_
    refine x_bipush (dA D_X12_book 8 rfl) (by decide) (by decide) ?_
    refine x_callV 11 [vI (-2)] [] (dA D_X12_book 9 rfl) cw_RX12_129 rfl rfl (Nat.le_of_ble_eq_true rfl) (by decide) rfl hd1 (zk k) (zk n) (sO_67 hM1) (S_X12_tell hM1 ⟨by decide, by decide, by decide⟩ (by omega) ?_) (kI (fun _ _ h => h))
    refine x_nmM (fun M5 eM5 => ?_)
    have hM5 : Sh M5 := eM5 ▸ (sTel hM1)
    have h := h M5 eM5 hM5
    show X G Y_X12_book d k n 19 [vA 67, vI x1, vU] [vI (-2 : Int)] M5 Q
    exact x_ireturn (dA D_X12_book 10 rfl) rfl h
theorem C_X12_book {G : GG} {d : Nat} {x1 : Int} {M : MM} {Q : PV → MM → Prop} (h : X G Y_X12_book d 0 0 0 [vA 67, vI x1, vU] [] M Q) : C G Y_X12_book d 0 0 [vA 67, vI x1] M Q := X.entry (by decide) (Nat.le_of_ble_eq_true rfl) rfl rfl rfl h
set_option maxRecDepth 100000 in
theorem B_X12_book_22 {G : GG} {d : Nat} {k n : Nat} {x1 x2 : Int} {M : MM} {Q : PV → MM → Prop} (hd : 2 ≤ d) (hS : Sh M) (h : inR x2 ∧ inR (rd M 69 3) ∧ (((rd M 69 3) ≤ x2 → 0 ≤ (45 + (rd M 69 3)) ∧ (45 + (rd M 69 3)) < 5460 ∧ ∀ M5, M5 = wr M 69 (45 + (rd M 69 3)) x1 → Sh M5 → ∀ M6, M6 = wr M5 69 3 ((rd M5 69 3) + 1) → Sh M6 → (-7 < (rd M6 69 3) ∧ inR (rd M6 69 3)) ∧ ∀ M8, M8 = telM M6 (rd M6 69 3) → Sh M8 → Q (vI (rd M6 69 3)) M8) ∧ (x2 < (rd M 69 3) → 0 ≤ (45 + x2) ∧ (45 + x2) < 5460 ∧ inR (rd M 69 (45 + x2)) ∧ inR x1 ∧ (((rd M 69 (45 + x2)) ≠ x1 → X G Y_X12_book d k n 22 [vA 67, vI x1, vI (x2 + 1)] [] M Q) ∧ ((rd M 69 (45 + x2)) = x1 → ∀ M13, M13 = telM M (-3 : Int) → Sh M13 → Q (vI (-3 : Int)) M13))))) : X G Y_X12_book d k n 22 [vA 67, vI x1, vI x2] [] M Q := by
  have hd1 : 1 ≤ d := by omega
  refine x_iload_n (dA D_X12_book 13 rfl) rfl ?_
  refine x_aload_n (dA D_X12_book 14 rfl) rfl ?_
  refine x_get (v := vA 69) (dA D_X12_book 15 rfl) fw_RX12_13 (sO_67 hS) (congrArg (rfV G) (sR_67_3 hS)) ?_
  refine x_iconst (dA D_X12_book 16 rfl) ?_
  refine x_iald (dA D_X12_book 17 rfl) (sA_69 hS (by decide) (by decide)) ?_
  obtain ⟨h1, h⟩ := h
  obtain ⟨h2, h⟩ := h
  refine x_icmp_geP (tgt := 58) (dA D_X12_book 18 rfl) (by decide) h1 h2 ⟨fun c => ?_, fun c => ?_⟩
  · have h := h.1 c
    refine x_aload_n (dA D_X12_book 33 rfl) rfl ?_
    refine x_get (v := vA 69) (dA D_X12_book 34 rfl) fw_RX12_13 (sO_67 hS) (congrArg (rfV G) (sR_67_3 hS)) ?_
    refine x_bipush (dA D_X12_book 35 rfl) (by decide) (by decide) ?_
    refine x_aload_n (dA D_X12_book 36 rfl) rfl ?_
    refine x_get (v := vA 69) (dA D_X12_book 37 rfl) fw_RX12_13 (sO_67 hS) (congrArg (rfV G) (sR_67_3 hS)) ?_
    refine x_iconst (dA D_X12_book 38 rfl) ?_
    refine x_iald (dA D_X12_book 39 rfl) (sA_69 hS (by decide) (by decide)) ?_
    refine x_iadd (dA D_X12_book 40 rfl) ?_
    refine x_iload_n (dA D_X12_book 41 rfl) rfl ?_
    obtain ⟨h3, h⟩ := h
    obtain ⟨h4, h⟩ := h
    refine x_iast (dA D_X12_book 42 rfl) (sA_69 hS h3 h4) ?_
    refine x_nmM (fun M5 eM5 => ?_)
    have hM5 : Sh M5 := eM5 ▸ (sW_69 hS)
    have h := h M5 eM5 hM5
    refine x_aload_n (dA D_X12_book 43 rfl) rfl ?_
    refine x_get (v := vA 69) (dA D_X12_book 44 rfl) fw_RX12_13 (sO_67 hM5) (congrArg (rfV G) (sR_67_3 hM5)) ?_
    refine x_iconst (dA D_X12_book 45 rfl) ?_
    refine x_dup2 (dA D_X12_book 46 rfl) rfl rfl ?_
    refine x_iald (dA D_X12_book 47 rfl) (sA_69 hM5 (by decide) (by decide)) ?_
    refine x_iconst (dA D_X12_book 48 rfl) ?_
    refine x_iadd (dA D_X12_book 49 rfl) ?_
    refine x_iast (dA D_X12_book 50 rfl) (sA_69 hM5 (by decide) (by decide)) ?_
    refine x_nmM (fun M6 eM6 => ?_)
    have hM6 : Sh M6 := eM6 ▸ (sW_69 hM5)
    have h := h M6 eM6 hM6
    refine x_aload_n (dA D_X12_book 51 rfl) rfl ?_
    refine x_aload_n (dA D_X12_book 52 rfl) rfl ?_
    refine x_get (v := vA 69) (dA D_X12_book 53 rfl) fw_RX12_13 (sO_67 hM6) (congrArg (rfV G) (sR_67_3 hM6)) ?_
    refine x_iconst (dA D_X12_book 54 rfl) ?_
    refine x_iald (dA D_X12_book 55 rfl) (sA_69 hM6 (by decide) (by decide)) ?_
    obtain ⟨h7, h⟩ := h
    refine x_callV 11 [vI (rd M6 69 3)] [] (dA D_X12_book 56 rfl) cw_RX12_129 rfl rfl (Nat.le_of_ble_eq_true rfl) (by decide) rfl hd1 (zk k) (zk n) (sO_67 hM6) (S_X12_tell hM6 h7 (by omega) ?_) (kI (fun _ _ h => h))
    refine x_nmM (fun M8 eM8 => ?_)
    have hM8 : Sh M8 := eM8 ▸ (sTel hM6)
    have h := h M8 eM8 hM8
    show X G Y_X12_book d k n 93 [vA 67, vI x1, vI x2] [vI (rd M6 69 3)] M8 Q
    exact x_ireturn (dA D_X12_book 57 rfl) rfl h
  · have h := h.2 c
    refine x_aload_n (dA D_X12_book 19 rfl) rfl ?_
    refine x_get (v := vA 69) (dA D_X12_book 20 rfl) fw_RX12_13 (sO_67 hS) (congrArg (rfV G) (sR_67_3 hS)) ?_
    refine x_bipush (dA D_X12_book 21 rfl) (by decide) (by decide) ?_
    refine x_iload_n (dA D_X12_book 22 rfl) rfl ?_
    refine x_iadd (dA D_X12_book 23 rfl) ?_
    obtain ⟨h9, h⟩ := h
    obtain ⟨h10, h⟩ := h
    refine x_iald (dA D_X12_book 24 rfl) (sA_69 hS h9 h10) ?_
    refine x_iload_n (dA D_X12_book 25 rfl) rfl ?_
    obtain ⟨h11, h⟩ := h
    obtain ⟨h12, h⟩ := h
    refine x_icmp_neP (tgt := 52) (dA D_X12_book 26 rfl) (by decide) h11 h12 ⟨fun c => ?_, fun c => ?_⟩
    · have h := h.1 c
      refine x_iinc (xs' := [vA 67, vI x1, vI (x2 + 1)]) (dA D_X12_book 31 rfl) rfl (by decide) rfl ?_
      refine x_goto (tgt := 22) (dA D_X12_book 32 rfl) (by decide) ?_
      exact h
    · have h := h.2 c
      refine x_aload_n (dA D_X12_book 27 rfl) rfl ?_
      refine x_bipush (dA D_X12_book 28 rfl) (by decide) (by decide) ?_
      refine x_callV 11 [vI (-3)] [] (dA D_X12_book 29 rfl) cw_RX12_129 rfl rfl (Nat.le_of_ble_eq_true rfl) (by decide) rfl hd1 (zk k) (zk n) (sO_67 hS) (S_X12_tell hS ⟨by decide, by decide, by decide⟩ (by omega) ?_) (kI (fun _ _ h => h))
      refine x_nmM (fun M13 eM13 => ?_)
      have hM13 : Sh M13 := eM13 ▸ (sTel hS)
      have h := h M13 eM13 hM13
      show X G Y_X12_book d k n 51 [vA 67, vI x1, vI x2] [vI (-3 : Int)] M13 Q
      exact x_ireturn (dA D_X12_book 30 rfl) rfl h
set_option maxRecDepth 100000 in
theorem B_X12_worth_0 {G : GG} {d : Nat} {k n : Nat} {x1 : Int} {M : MM} {Q : PV → MM → Prop} (hd : 3 ≤ d) (hS : Sh M) (h : ∀ M1, M1 = wr M 67 0 0 → Sh M1 → inR x1 ∧ ((((0 : Int) ≤ x1) ∧ (x1 ≤ (3 : Int)) → C G Y_X12_findRoot (d - 1) 0 0 [vA 67, vI x1, vI 8] M1 (rU (fun M3 => Sh M3 ∧ C G Y_X12_digits (d - 1) 0 0 [vA 85, vI 98] M3 (rL (fun r5 M4 => Sh M4 ∧ Q (vI r5) M4))))) ∧ (¬ (((0 : Int) ≤ x1) ∧ (x1 ≤ (3 : Int))) → Q (vI (-1)) M1))) : X G Y_X12_worth d k n 0 [vA 67, vI x1] [] M Q := by
  have hd1 : 1 ≤ d := by omega
  refine x_aload_n (dA D_X12_worth 0 rfl) rfl ?_
  refine x_iconst (dA D_X12_worth 1 rfl) ?_
  refine x_put (x := 0) (dA D_X12_worth 2 rfl) fw_RX12_115 (fun _ _ hc => by cases hc; exact Or.inl rfl) (sO_67 hS) rfl rfl rfl ?_
  refine x_nmM (fun M1 eM1 => ?_)
  have hM1 : Sh M1 := eM1 ▸ (sW_67_0 hS)
  have h := h M1 eM1 hM1
  refine x_iload_n (dA D_X12_worth 3 rfl) rfl ?_
  obtain ⟨h2, h⟩ := h
  refine x_callS [vI x1] [] (dA D_X12_worth 4 rfl) cw_RX12_457 rfl rfl (Nat.le_of_ble_eq_true rfl) hd1 (zk k) (zk n) (S_X12_isChooser h2 (by omega) ?_) (kI (fun _ _ h => h))
  show X G Y_X12_worth d k n 9 [vA 67, vI x1] [vI (if ((0 : Int) ≤ x1) ∧ (x1 ≤ (3 : Int)) then 1 else 0)] M1 Q
  refine x_if_neB (tgt := 14) (dA D_X12_worth 5 rfl) (by decide) ⟨fun c => ?_, fun c => ?_⟩
  · have h := h.1 c
    refine x_aload_n (dA D_X12_worth 8 rfl) rfl ?_
    refine x_iload_n (dA D_X12_worth 9 rfl) rfl ?_
    refine x_bipush (dA D_X12_worth 10 rfl) (by decide) (by decide) ?_
    refine x_callV 11 [vI x1, vI 8] [] (dA D_X12_worth 11 rfl) cw_RX12_460 rfl rfl (Nat.le_of_ble_eq_true rfl) (by decide) rfl hd1 (zk k) (zk n) (sO_67 hM1) h (kU (fun M3 h => ?_))
    obtain ⟨hM3, h⟩ := h
    refine x_aload_n (dA D_X12_worth 12 rfl) rfl ?_
    refine x_get (v := vA 85) (dA D_X12_worth 13 rfl) fw_RX12_82 (sO_67 hM3) (congrArg (rfV G) (sR_67_36 hM3)) ?_
    refine x_bipush (dA D_X12_worth 14 rfl) (by decide) (by decide) ?_
    refine x_callS [vA 85, vI 98] [] (dA D_X12_worth 15 rfl) cw_RX12_463 rfl rfl (Nat.le_of_ble_eq_true rfl) hd1 (zk k) (zk n) h (kL' (fun r5 M4 h => ?_))
    obtain ⟨hM4, h⟩ := h
    refine x_l2i (dA D_X12_worth 16 rfl) ?_
    exact x_ireturn (dA D_X12_worth 17 rfl) rfl h
  · have h := h.2 c
    refine x_iconst (dA D_X12_worth 6 rfl) ?_
    exact x_ireturn (dA D_X12_worth 7 rfl) rfl h
theorem C_X12_worth {G : GG} {d : Nat} {x1 : Int} {M : MM} {Q : PV → MM → Prop} (h : X G Y_X12_worth d 0 0 0 [vA 67, vI x1] [] M Q) : C G Y_X12_worth d 0 0 [vA 67, vI x1] M Q := X.entry (by decide) (Nat.le_of_ble_eq_true rfl) rfl rfl rfl h
set_option maxRecDepth 100000 in
theorem B_X12_figures_0 {G : GG} {d : Nat} {k n : Nat} {x1 x2 : Int} {M : MM} {Q : PV → MM → Prop} (hd : 3 ≤ d) (hS : Sh M) (h : ∀ M1, M1 = wr M 67 0 0 → Sh M1 → inR x1 ∧ ((¬ (((0 : Int) ≤ x1) ∧ (x1 ≤ (3 : Int))) → Q (vI (-1)) M1) ∧ (((0 : Int) ≤ x1) ∧ (x1 ≤ (3 : Int)) → inR x2 ∧ ((((0 : Int) ≤ x2) ∧ (x2 ≤ (12 : Int)) → C G Y_X12_findRoot (d - 1) 0 0 [vA 67, vI x1, vI 8] M1 (rU (fun M4 => Sh M4 ∧ ∀ v5, v5 = (9 * x2) + 8 → X G Y_X12_figures d k n 44 [vA 67, vI x1, vI x2, vI 0, vI v5] [] M4 Q))) ∧ (¬ (((0 : Int) ≤ x2) ∧ (x2 ≤ (12 : Int))) → Q (vI (-1)) M1))))) : X G Y_X12_figures d k n 0 [vA 67, vI x1, vI x2, vU, vU] [] M Q := by
  have hd1 : 1 ≤ d := by omega
  refine x_aload_n (dA D_X12_figures 0 rfl) rfl ?_
  refine x_iconst (dA D_X12_figures 1 rfl) ?_
  refine x_put (x := 0) (dA D_X12_figures 2 rfl) fw_RX12_115 (fun _ _ hc => by cases hc; exact Or.inl rfl) (sO_67 hS) rfl rfl rfl ?_
  refine x_nmM (fun M1 eM1 => ?_)
  have hM1 : Sh M1 := eM1 ▸ (sW_67_0 hS)
  have h := h M1 eM1 hM1
  refine x_iload_n (dA D_X12_figures 3 rfl) rfl ?_
  obtain ⟨h2, h⟩ := h
  refine x_callS [vI x1] [] (dA D_X12_figures 4 rfl) cw_RX12_457 rfl rfl (Nat.le_of_ble_eq_true rfl) hd1 (zk k) (zk n) (S_X12_isChooser h2 (by omega) ?_) (kI (fun _ _ h => h))
  show X G Y_X12_figures d k n 9 [vA 67, vI x1, vI x2, vU, vU] [vI (if ((0 : Int) ≤ x1) ∧ (x1 ≤ (3 : Int)) then 1 else 0)] M1 Q
  refine x_if_eqB (tgt := 24) (dA D_X12_figures 5 rfl) (by decide) ⟨fun c => ?_, fun c => ?_⟩
  · have h := h.1 c
    refine x_iconst (dA D_X12_figures 12 rfl) ?_
    exact x_ireturn (dA D_X12_figures 13 rfl) rfl h
  · have h := h.2 c
    refine x_iload_n (dA D_X12_figures 6 rfl) rfl ?_
    obtain ⟨h3, h⟩ := h
    refine x_i2l (dA D_X12_figures 7 rfl) h3 ?_
    refine x_lconst (a := 0) (dA D_X12_figures 8 rfl) (by decide) ?_
    refine x_ldc2 (a := 12) (dA D_X12_figures 9 rfl) kl_RX12_467 (by decide) ?_
    refine x_callS [vL x2, vL 0, vL 12] [] (dA D_X12_figures 10 rfl) cw_RX12_125 rfl rfl (Nat.le_of_ble_eq_true rfl) hd1 (zk k) (zk n) (S_X12_in (inR_L h3) ⟨by decide, by decide⟩ ⟨by decide, by decide⟩ (by omega) ?_) (kI (fun _ _ h => h))
    show X G Y_X12_figures d k n 21 [vA 67, vI x1, vI x2, vU, vU] [vI (if ((0 : Int) ≤ x2) ∧ (x2 ≤ (12 : Int)) then 1 else 0)] M1 Q
    refine x_if_neB (tgt := 26) (dA D_X12_figures 11 rfl) (by decide) ⟨fun c => ?_, fun c => ?_⟩
    · have h := h.1 c
      refine x_aload_n (dA D_X12_figures 14 rfl) rfl ?_
      refine x_iload_n (dA D_X12_figures 15 rfl) rfl ?_
      refine x_bipush (dA D_X12_figures 16 rfl) (by decide) (by decide) ?_
      refine x_callV 11 [vI x1, vI 8] [] (dA D_X12_figures 17 rfl) cw_RX12_460 rfl rfl (Nat.le_of_ble_eq_true rfl) (by decide) rfl hd1 (zk k) (zk n) (sO_67 hM1) h (kU (fun M4 h => ?_))
      obtain ⟨hM4, h⟩ := h
      refine x_iconst (dA D_X12_figures 18 rfl) ?_
      refine x_istore_n (xs' := [vA 67, vI x1, vI x2, vI 0, vU]) (dA D_X12_figures 19 rfl) (by decide) rfl ?_
      refine x_bipush (dA D_X12_figures 20 rfl) (by decide) (by decide) ?_
      refine x_iload_n (dA D_X12_figures 21 rfl) rfl ?_
      refine x_imul (dA D_X12_figures 22 rfl) ?_
      refine x_bipush (dA D_X12_figures 23 rfl) (by decide) (by decide) ?_
      refine x_iadd (dA D_X12_figures 24 rfl) ?_
      refine x_nmI (fun v5 ev5 => ?_)
      have h := h v5 ev5
      refine x_istore (xs' := [vA 67, vI x1, vI x2, vI 0, vI v5]) (dA D_X12_figures 25 rfl) (by decide) rfl ?_
      exact h
    · have h := h.2 c
      refine x_iconst (dA D_X12_figures 12 rfl) ?_
      exact x_ireturn (dA D_X12_figures 13 rfl) rfl h
theorem C_X12_figures {G : GG} {d : Nat} {x1 x2 : Int} {M : MM} {Q : PV → MM → Prop} (h : X G Y_X12_figures d 0 0 0 [vA 67, vI x1, vI x2, vU, vU] [] M Q) : C G Y_X12_figures d 0 0 [vA 67, vI x1, vI x2] M Q := X.entry (by decide) (Nat.le_of_ble_eq_true rfl) rfl rfl rfl h
set_option maxRecDepth 100000 in
theorem B_X12_figures_44 {G : GG} {d : Nat} {k n : Nat} {x1 x2 x3 x4 : Int} {M : MM} {Q : PV → MM → Prop} (hd : 2 ≤ d) (hS : Sh M) (h : inR x4 ∧ inR (9 * x2) ∧ ((x4 < (9 * x2) → Q (vI x3) M) ∧ ((9 * x2) ≤ x4 → ((112 ≤ x4 → ∀ v3, v3 = (10 * x3) + 0 → X G Y_X12_figures d k n 44 [vA 67, vI x1, vI x2, vI v3, vI (x4 + (-1))] [] M Q) ∧ (x4 < 112 → Ar M (85 : Int) 0 14 ∧ nrm (rd M (85 : Int)) 0 14 ∧ (0 ≤ x4 ∧ x4 < 112) ∧ ∀ v7, v7 = (10 * x3) + (digF (rd M (85 : Int)) x4) → X G Y_X12_figures d k n 44 [vA 67, vI x1, vI x2, vI v7, vI (x4 + (-1))] [] M Q))))) : X G Y_X12_figures d k n 44 [vA 67, vI x1, vI x2, vI x3, vI x4] [] M Q := by
  have hd1 : 1 ≤ d := by omega
  refine x_iload (dA D_X12_figures 26 rfl) rfl ?_
  refine x_bipush (dA D_X12_figures 27 rfl) (by decide) (by decide) ?_
  refine x_iload_n (dA D_X12_figures 28 rfl) rfl ?_
  refine x_imul (dA D_X12_figures 29 rfl) ?_
  obtain ⟨h1, h⟩ := h
  obtain ⟨h2, h⟩ := h
  refine x_icmp_ltP (tgt := 85) (dA D_X12_figures 30 rfl) (by decide) h1 h2 ⟨fun c => ?_, fun c => ?_⟩
  · have h := h.1 c
    refine x_iload_n (dA D_X12_figures 47 rfl) rfl ?_
    exact x_ireturn (dA D_X12_figures 48 rfl) rfl h
  · have h := h.2 c
    refine x_bipush (dA D_X12_figures 31 rfl) (by decide) (by decide) ?_
    refine x_iload_n (dA D_X12_figures 32 rfl) rfl ?_
    refine x_imul (dA D_X12_figures 33 rfl) ?_
    refine x_iload (dA D_X12_figures 34 rfl) rfl ?_
    refine x_bipush (dA D_X12_figures 35 rfl) (by decide) (by decide) ?_
    refine x_icmp_geP (tgt := 76) (dA D_X12_figures 36 rfl) (by decide) h1 ⟨by decide, by decide⟩ ⟨fun c => ?_, fun c => ?_⟩
    · have h := h.1 c
      refine x_iconst (dA D_X12_figures 42 rfl) ?_
      refine x_iadd (dA D_X12_figures 43 rfl) ?_
      refine x_nmI (fun v3 ev3 => ?_)
      have h := h v3 ev3
      refine x_istore_n (xs' := [vA 67, vI x1, vI x2, vI v3, vI x4]) (dA D_X12_figures 44 rfl) (by decide) rfl ?_
      refine x_iinc (xs' := [vA 67, vI x1, vI x2, vI v3, vI (x4 + (-1))]) (dA D_X12_figures 45 rfl) rfl (by decide) rfl ?_
      refine x_goto (tgt := 44) (dA D_X12_figures 46 rfl) (by decide) ?_
      exact h
    · have h := h.2 c
      refine x_aload_n (dA D_X12_figures 37 rfl) rfl ?_
      refine x_get (v := vA 85) (dA D_X12_figures 38 rfl) fw_RX12_82 (sO_67 hS) (congrArg (rfV G) (sR_67_36 hS)) ?_
      refine x_iload (dA D_X12_figures 39 rfl) rfl ?_
      obtain ⟨h4, h⟩ := h
      obtain ⟨h5, h⟩ := h
      obtain ⟨h6, h⟩ := h
      refine x_callS [vA 85, vI x4] [vI (10 * x3)] (dA D_X12_figures 40 rfl) cw_RX12_363 rfl rfl (Nat.le_of_ble_eq_true rfl) hd1 (zk k) (zk n) (S_X12_digit h4 h5 h6 (by omega) ?_) (kI (fun _ _ h => h))
      show X G Y_X12_figures d k n 73 [vA 67, vI x1, vI x2, vI x3, vI x4] [vI (digF (rd M (85 : Int)) x4), vI (10 * x3)] M Q
      refine x_goto (tgt := 77) (dA D_X12_figures 41 rfl) (by decide) ?_
      refine x_iadd (dA D_X12_figures 43 rfl) ?_
      refine x_nmI (fun v7 ev7 => ?_)
      have h := h v7 ev7
      refine x_istore_n (xs' := [vA 67, vI x1, vI x2, vI v7, vI x4]) (dA D_X12_figures 44 rfl) (by decide) rfl ?_
      refine x_iinc (xs' := [vA 67, vI x1, vI x2, vI v7, vI (x4 + (-1))]) (dA D_X12_figures 45 rfl) rfl (by decide) rfl ?_
      refine x_goto (tgt := 44) (dA D_X12_figures 46 rfl) (by decide) ?_
      exact h
set_option maxRecDepth 100000 in
theorem B_X12_next_0 {G : GG} {d : Nat} {k n : Nat} {x1 x2 x3 x4 x5 : Int} {M : MM} {Q : PV → MM → Prop} (hd : 3 ≤ d) (hS : Sh M) (h : ∀ M1, M1 = wr M 67 0 0 → Sh M1 → inR x1 ∧ ((¬ (((0 : Int) ≤ x1) ∧ (x1 ≤ (3 : Int))) → X G Y_X12_next d k n 72 [vA 67, vI x1, vI x2, vI x3, vI x4, vI x5, vU, vU] [] M1 Q) ∧ (((0 : Int) ≤ x1) ∧ (x1 ≤ (3 : Int)) → inR x2 ∧ inL ((iShl 1 (rd M1 69 0)) - 1) ∧ ((¬ (((0 : Int) ≤ x2) ∧ (x2 ≤ ((iShl 1 (rd M1 69 0)) - 1))) → X G Y_X12_next d k n 72 [vA 67, vI x1, vI x2, vI x3, vI x4, vI x5, vU, vU] [] M1 Q) ∧ (((0 : Int) ≤ x2) ∧ (x2 ≤ ((iShl 1 (rd M1 69 0)) - 1)) → inR x4 ∧ inR (rd M1 69 30) ∧ ((¬ (((0 : Int) ≤ x4) ∧ (x4 ≤ (rd M1 69 30))) → X G Y_X12_next d k n 72 [vA 67, vI x1, vI x2, vI x3, vI x4, vI x5, vU, vU] [] M1 Q) ∧ (((0 : Int) ≤ x4) ∧ (x4 ≤ (rd M1 69 30)) → inR x5 ∧ inR (rd M1 69 33) ∧ ((¬ (((0 : Int) ≤ x5) ∧ (x5 ≤ (rd M1 69 33))) → X G Y_X12_next d k n 72 [vA 67, vI x1, vI x2, vI x3, vI x4, vI x5, vU, vU] [] M1 Q) ∧ (((0 : Int) ≤ x5) ∧ (x5 ≤ (rd M1 69 33)) → inR x3 ∧ inR (rd M1 69 0) ∧ inL ((rd M1 69 0) - 1) ∧ ((¬ (((-1 : Int) ≤ x3) ∧ (x3 ≤ ((rd M1 69 0) - 1))) → X G Y_X12_next d k n 104 [vA 67, vI x1, vI x2, vI x3, vI x4, vI x5, vI 1, vU] [] M1 Q) ∧ (((-1 : Int) ≤ x3) ∧ (x3 ≤ ((rd M1 69 0) - 1)) → inR (x4 + x5) ∧ ((((¬ (isStt x2 x3)) ∨ ((x4 + x5) = 0)) → Q (vI (-1)) M1) ∧ (¬ ((¬ (isStt x2 x3)) ∨ ((x4 + x5) = 0)) → C G Y_X12_choose (d - 1) 0 0 [vA 67, vI x1] M1 (rU (fun M21 => Sh M21 ∧ ((x1 ≠ 0 → ((x1 ≠ 3 → 0 ≤ (((((((x2 * 6) + x3) + 1) * 6) + x4) * 6) + x5) ∧ (((((((x2 * 6) + x3) + 1) * 6) + x4) * 6) + x5) < 6912 ∧ ∀ v24, v24 = rd M21 82 (((((((x2 * 6) + x3) + 1) * 6) + x4) * 6) + x5) → Q (vI v24) M21) ∧ (x1 = 3 → C G Y_X12_nextOf (d - 1) 0 0 [vA 67, vA 89, vI 0, vI (rd M21 67 43), vI x2] M21 (rI (fun r26 M25 => Sh M25 ∧ Q (vI r26) M25))))) ∧ (x1 = 0 → C G Y_X12_nextOf (d - 1) 0 0 [vA 67, vA 69, vI 45, vI (rd M21 69 3), vI x2] M21 (rI (fun r28 M27 => Sh M27 ∧ Q (vI r28) M27))))))))))))))))))) : X G Y_X12_next d k n 0 [vA 67, vI x1, vI x2, vI x3, vI x4, vI x5, vU, vU] [] M Q := by
  have hd1 : 1 ≤ d := by omega
  refine x_aload_n (dA D_X12_next 0 rfl) rfl ?_
  refine x_iconst (dA D_X12_next 1 rfl) ?_
  refine x_put (x := 0) (dA D_X12_next 2 rfl) fw_RX12_115 (fun _ _ hc => by cases hc; exact Or.inl rfl) (sO_67 hS) rfl rfl rfl ?_
  refine x_nmM (fun M1 eM1 => ?_)
  have hM1 : Sh M1 := eM1 ▸ (sW_67_0 hS)
  have h := h M1 eM1 hM1
  refine x_iload_n (dA D_X12_next 3 rfl) rfl ?_
  obtain ⟨h2, h⟩ := h
  refine x_callS [vI x1] [] (dA D_X12_next 4 rfl) cw_RX12_457 rfl rfl (Nat.le_of_ble_eq_true rfl) hd1 (zk k) (zk n) (S_X12_isChooser h2 (by omega) ?_) (kI (fun _ _ h => h))
  show X G Y_X12_next d k n 9 [vA 67, vI x1, vI x2, vI x3, vI x4, vI x5, vU, vU] [vI (if ((0 : Int) ≤ x1) ∧ (x1 ≤ (3 : Int)) then 1 else 0)] M1 Q
  refine x_if_eqB (tgt := 72) (dA D_X12_next 5 rfl) (by decide) ⟨fun c => ?_, fun c => ?_⟩
  · have h := h.1 c
    exact h
  · have h := h.2 c
    refine x_iload_n (dA D_X12_next 6 rfl) rfl ?_
    obtain ⟨h3, h⟩ := h
    refine x_i2l (dA D_X12_next 7 rfl) h3 ?_
    refine x_lconst (a := 0) (dA D_X12_next 8 rfl) (by decide) ?_
    refine x_iconst (dA D_X12_next 9 rfl) ?_
    refine x_aload_n (dA D_X12_next 10 rfl) rfl ?_
    refine x_get (v := vA 69) (dA D_X12_next 11 rfl) fw_RX12_13 (sO_67 hM1) (congrArg (rfV G) (sR_67_3 hM1)) ?_
    refine x_iconst (dA D_X12_next 12 rfl) ?_
    refine x_iald (dA D_X12_next 13 rfl) (sA_69 hM1 (by decide) (by decide)) ?_
    refine x_ishl (dA D_X12_next 14 rfl) ?_
    refine x_i2l (dA D_X12_next 15 rfl) (inR_iShl _ _) ?_
    refine x_lconst (a := 1) (dA D_X12_next 16 rfl) (by decide) ?_
    refine x_lsub (dA D_X12_next 17 rfl) ?_
    obtain ⟨h4, h⟩ := h
    refine x_callS [vL x2, vL 0, vL ((iShl 1 (rd M1 69 0)) - 1)] [] (dA D_X12_next 18 rfl) cw_RX12_125 rfl rfl (Nat.le_of_ble_eq_true rfl) hd1 (zk k) (zk n) (S_X12_in (inR_L h3) ⟨by decide, by decide⟩ h4 (by omega) ?_) (kI (fun _ _ h => h))
    show X G Y_X12_next d k n 29 [vA 67, vI x1, vI x2, vI x3, vI x4, vI x5, vU, vU] [vI (if ((0 : Int) ≤ x2) ∧ (x2 ≤ ((iShl 1 (rd M1 69 0)) - 1)) then 1 else 0)] M1 Q
    refine x_if_eqB (tgt := 72) (dA D_X12_next 19 rfl) (by decide) ⟨fun c => ?_, fun c => ?_⟩
    · have h := h.1 c
      exact h
    · have h := h.2 c
      refine x_iload (dA D_X12_next 20 rfl) rfl ?_
      obtain ⟨h5, h⟩ := h
      refine x_i2l (dA D_X12_next 21 rfl) h5 ?_
      refine x_lconst (a := 0) (dA D_X12_next 22 rfl) (by decide) ?_
      refine x_aload_n (dA D_X12_next 23 rfl) rfl ?_
      refine x_get (v := vA 69) (dA D_X12_next 24 rfl) fw_RX12_13 (sO_67 hM1) (congrArg (rfV G) (sR_67_3 hM1)) ?_
      refine x_bipush (dA D_X12_next 25 rfl) (by decide) (by decide) ?_
      refine x_iald (dA D_X12_next 26 rfl) (sA_69 hM1 (by decide) (by decide)) ?_
      obtain ⟨h6, h⟩ := h
      refine x_i2l (dA D_X12_next 27 rfl) h6 ?_
      refine x_callS [vL x4, vL 0, vL (rd M1 69 30)] [] (dA D_X12_next 28 rfl) cw_RX12_125 rfl rfl (Nat.le_of_ble_eq_true rfl) hd1 (zk k) (zk n) (S_X12_in (inR_L h5) ⟨by decide, by decide⟩ (inR_L h6) (by omega) ?_) (kI (fun _ _ h => h))
      show X G Y_X12_next d k n 47 [vA 67, vI x1, vI x2, vI x3, vI x4, vI x5, vU, vU] [vI (if ((0 : Int) ≤ x4) ∧ (x4 ≤ (rd M1 69 30)) then 1 else 0)] M1 Q
      refine x_if_eqB (tgt := 72) (dA D_X12_next 29 rfl) (by decide) ⟨fun c => ?_, fun c => ?_⟩
      · have h := h.1 c
        exact h
      · have h := h.2 c
        refine x_iload (dA D_X12_next 30 rfl) rfl ?_
        obtain ⟨h7, h⟩ := h
        refine x_i2l (dA D_X12_next 31 rfl) h7 ?_
        refine x_lconst (a := 0) (dA D_X12_next 32 rfl) (by decide) ?_
        refine x_aload_n (dA D_X12_next 33 rfl) rfl ?_
        refine x_get (v := vA 69) (dA D_X12_next 34 rfl) fw_RX12_13 (sO_67 hM1) (congrArg (rfV G) (sR_67_3 hM1)) ?_
        refine x_bipush (dA D_X12_next 35 rfl) (by decide) (by decide) ?_
        refine x_iald (dA D_X12_next 36 rfl) (sA_69 hM1 (by decide) (by decide)) ?_
        obtain ⟨h8, h⟩ := h
        refine x_i2l (dA D_X12_next 37 rfl) h8 ?_
        refine x_callS [vL x5, vL 0, vL (rd M1 69 33)] [] (dA D_X12_next 38 rfl) cw_RX12_125 rfl rfl (Nat.le_of_ble_eq_true rfl) hd1 (zk k) (zk n) (S_X12_in (inR_L h7) ⟨by decide, by decide⟩ (inR_L h8) (by omega) ?_) (kI (fun _ _ h => h))
        show X G Y_X12_next d k n 65 [vA 67, vI x1, vI x2, vI x3, vI x4, vI x5, vU, vU] [vI (if ((0 : Int) ≤ x5) ∧ (x5 ≤ (rd M1 69 33)) then 1 else 0)] M1 Q
        refine x_if_eqB (tgt := 72) (dA D_X12_next 39 rfl) (by decide) ⟨fun c => ?_, fun c => ?_⟩
        · have h := h.1 c
          exact h
        · have h := h.2 c
          refine x_iconst (dA D_X12_next 40 rfl) ?_
          refine x_goto (tgt := 73) (dA D_X12_next 41 rfl) (by decide) ?_
          refine x_istore (xs' := [vA 67, vI x1, vI x2, vI x3, vI x4, vI x5, vI 1, vU]) (dA D_X12_next 43 rfl) (by decide) rfl ?_
          refine x_iload (dA D_X12_next 44 rfl) rfl ?_
          refine x_if_eqP (tgt := 104) (dA D_X12_next 45 rfl) (by decide) ⟨by decide, by decide⟩ ⟨fun c => ?_, fun c => ?_⟩
          · exact absurd c (by decide)
          · skip
            refine x_iload_n (dA D_X12_next 46 rfl) rfl ?_
            obtain ⟨h9, h⟩ := h
            refine x_i2l (dA D_X12_next 47 rfl) h9 ?_
            refine x_ldc2 (a := (-1)) (dA D_X12_next 48 rfl) kl_RX12_208 (by decide) ?_
            refine x_aload_n (dA D_X12_next 49 rfl) rfl ?_
            refine x_get (v := vA 69) (dA D_X12_next 50 rfl) fw_RX12_13 (sO_67 hM1) (congrArg (rfV G) (sR_67_3 hM1)) ?_
            refine x_iconst (dA D_X12_next 51 rfl) ?_
            refine x_iald (dA D_X12_next 52 rfl) (sA_69 hM1 (by decide) (by decide)) ?_
            obtain ⟨h10, h⟩ := h
            refine x_i2l (dA D_X12_next 53 rfl) h10 ?_
            refine x_lconst (a := 1) (dA D_X12_next 54 rfl) (by decide) ?_
            refine x_lsub (dA D_X12_next 55 rfl) ?_
            obtain ⟨h11, h⟩ := h
            refine x_callS [vL x3, vL (-1), vL ((rd M1 69 0) - 1)] [] (dA D_X12_next 56 rfl) cw_RX12_125 rfl rfl (Nat.le_of_ble_eq_true rfl) hd1 (zk k) (zk n) (S_X12_in (inR_L h9) ⟨by decide, by decide⟩ h11 (by omega) ?_) (kI (fun _ _ h => h))
            show X G Y_X12_next d k n 97 [vA 67, vI x1, vI x2, vI x3, vI x4, vI x5, vI 1, vU] [vI (if ((-1 : Int) ≤ x3) ∧ (x3 ≤ ((rd M1 69 0) - 1)) then 1 else 0)] M1 Q
            refine x_if_eqB (tgt := 104) (dA D_X12_next 57 rfl) (by decide) ⟨fun c => ?_, fun c => ?_⟩
            · have h := h.1 c
              exact h
            · have h := h.2 c
              refine x_iconst (dA D_X12_next 58 rfl) ?_
              refine x_goto (tgt := 105) (dA D_X12_next 59 rfl) (by decide) ?_
              refine x_istore (xs' := [vA 67, vI x1, vI x2, vI x3, vI x4, vI x5, vI 1, vU]) (dA D_X12_next 61 rfl) (by decide) rfl ?_
              refine x_iload (dA D_X12_next 62 rfl) rfl ?_
              refine x_if_eqP (tgt := 129) (dA D_X12_next 63 rfl) (by decide) ⟨by decide, by decide⟩ ⟨fun c => ?_, fun c => ?_⟩
              · exact absurd c (by decide)
              · skip
                refine x_aload_n (dA D_X12_next 64 rfl) rfl ?_
                refine x_iload_n (dA D_X12_next 65 rfl) rfl ?_
                refine x_iload_n (dA D_X12_next 66 rfl) rfl ?_
                refine x_callV 11 [vI x2, vI x3] [] (dA D_X12_next 67 rfl) cw_RX12_403 rfl rfl (Nat.le_of_ble_eq_true rfl) (by decide) rfl hd1 (zk k) (zk n) (sO_67 hM1) (S_X12_isState hM1 h3 h9 (by omega) ?_) (kI (fun _ _ h => h))
                show X G Y_X12_next d k n 118 [vA 67, vI x1, vI x2, vI x3, vI x4, vI x5, vI 1, vU] [vI (if isStt x2 x3 then 1 else 0)] M1 Q
                obtain ⟨h17, h⟩ := h
                have hA : ((¬ (isStt x2 x3)) ∨ ((x4 + x5) = 0)) → X G Y_X12_next d k n 129 [vA 67, vI x1, vI x2, vI x3, vI x4, vI x5, vI 1, vU] [] M1 Q := by
                  intro c29
                  have h := h.1 c29
                  refine x_iconst (dA D_X12_next 73 rfl) ?_
                  exact x_ireturn (dA D_X12_next 74 rfl) rfl h
                have hB : ¬ ((¬ (isStt x2 x3)) ∨ ((x4 + x5) = 0)) → X G Y_X12_next d k n 131 [vA 67, vI x1, vI x2, vI x3, vI x4, vI x5, vI 1, vU] [] M1 Q := by
                  intro c29
                  have h := h.2 c29
                  refine x_aload_n (dA D_X12_next 75 rfl) rfl ?_
                  refine x_iload_n (dA D_X12_next 76 rfl) rfl ?_
                  refine x_callV 11 [vI x1] [] (dA D_X12_next 77 rfl) cw_RX12_454 rfl rfl (Nat.le_of_ble_eq_true rfl) (by decide) rfl hd1 (zk k) (zk n) (sO_67 hM1) h (kU (fun M21 h => ?_))
                  obtain ⟨hM21, h⟩ := h
                  refine x_iconst (dA D_X12_next 78 rfl) ?_
                  refine x_istore (xs' := [vA 67, vI x1, vI x2, vI x3, vI x4, vI x5, vI 1, vI (-1)]) (dA D_X12_next 79 rfl) (by decide) rfl ?_
                  refine x_iload_n (dA D_X12_next 80 rfl) rfl ?_
                  refine x_if_neP (tgt := 165) (dA D_X12_next 81 rfl) (by decide) h2 ⟨fun c => ?_, fun c => ?_⟩
                  · have h := h.1 c
                    refine x_iload_n (dA D_X12_next 94 rfl) rfl ?_
                    refine x_iconst (dA D_X12_next 95 rfl) ?_
                    refine x_icmp_neP (tgt := 189) (dA D_X12_next 96 rfl) (by decide) h2 ⟨by decide, by decide⟩ ⟨fun c => ?_, fun c => ?_⟩
                    · have h := h.1 c
                      refine x_aload_n (dA D_X12_next 107 rfl) rfl ?_
                      refine x_get (v := vA 82) (dA D_X12_next 108 rfl) fw_RX12_73 (sO_67 hM21) (congrArg (rfV G) (sR_67_33 hM21)) ?_
                      refine x_iload_n (dA D_X12_next 109 rfl) rfl ?_
                      refine x_iload_n (dA D_X12_next 110 rfl) rfl ?_
                      refine x_iload (dA D_X12_next 111 rfl) rfl ?_
                      refine x_iload (dA D_X12_next 112 rfl) rfl ?_
                      refine x_callS [vI x2, vI x3, vI x4, vI x5] [vA 82] (dA D_X12_next 113 rfl) cw_RX12_395 rfl rfl (Nat.le_of_ble_eq_true rfl) hd1 (zk k) (zk n) (S_X12_stateOf  (by omega) ?_) (kI (fun _ _ h => h))
                      show X G Y_X12_next d k n 202 [vA 67, vI x1, vI x2, vI x3, vI x4, vI x5, vI 1, vI (-1)] [vI (((((((x2 * 6) + x3) + 1) * 6) + x4) * 6) + x5), vA 82] M21 Q
                      obtain ⟨h22, h⟩ := h
                      obtain ⟨h23, h⟩ := h
                      refine x_iald (dA D_X12_next 114 rfl) (sA_82 hM21 h22 h23) ?_
                      refine x_nmI (fun v24 ev24 => ?_)
                      have h := h v24 ev24
                      refine x_istore (xs' := [vA 67, vI x1, vI x2, vI x3, vI x4, vI x5, vI 1, vI v24]) (dA D_X12_next 115 rfl) (by decide) rfl ?_
                      refine x_iload (dA D_X12_next 116 rfl) rfl ?_
                      exact x_ireturn (dA D_X12_next 117 rfl) rfl h
                    · have h := h.2 c
                      refine x_aload_n (dA D_X12_next 97 rfl) rfl ?_
                      refine x_aload_n (dA D_X12_next 98 rfl) rfl ?_
                      refine x_get (v := vA 89) (dA D_X12_next 99 rfl) fw_RX12_97 (sO_67 hM21) (congrArg (rfV G) (sR_67_42 hM21)) ?_
                      refine x_iconst (dA D_X12_next 100 rfl) ?_
                      refine x_aload_n (dA D_X12_next 101 rfl) rfl ?_
                      refine x_get (v := vI (rd M21 67 43)) (dA D_X12_next 102 rfl) fw_RX12_437 (sO_67 hM21) rfl ?_
                      refine x_iload_n (dA D_X12_next 103 rfl) rfl ?_
                      refine x_callV 11 [vA 89, vI 0, vI (rd M21 67 43), vI x2] [] (dA D_X12_next 104 rfl) cw_RX12_469 rfl rfl (Nat.le_of_ble_eq_true rfl) (by decide) rfl hd1 (zk k) (zk n) (sO_67 hM21) h (kI (fun r26 M25 h => ?_))
                      obtain ⟨hM25, h⟩ := h
                      refine x_istore (xs' := [vA 67, vI x1, vI x2, vI x3, vI x4, vI x5, vI 1, vI r26]) (dA D_X12_next 105 rfl) (by decide) rfl ?_
                      refine x_goto (tgt := 205) (dA D_X12_next 106 rfl) (by decide) ?_
                      refine x_iload (dA D_X12_next 116 rfl) rfl ?_
                      exact x_ireturn (dA D_X12_next 117 rfl) rfl h
                  · have h := h.2 c
                    refine x_aload_n (dA D_X12_next 82 rfl) rfl ?_
                    refine x_aload_n (dA D_X12_next 83 rfl) rfl ?_
                    refine x_get (v := vA 69) (dA D_X12_next 84 rfl) fw_RX12_13 (sO_67 hM21) (congrArg (rfV G) (sR_67_3 hM21)) ?_
                    refine x_bipush (dA D_X12_next 85 rfl) (by decide) (by decide) ?_
                    refine x_aload_n (dA D_X12_next 86 rfl) rfl ?_
                    refine x_get (v := vA 69) (dA D_X12_next 87 rfl) fw_RX12_13 (sO_67 hM21) (congrArg (rfV G) (sR_67_3 hM21)) ?_
                    refine x_iconst (dA D_X12_next 88 rfl) ?_
                    refine x_iald (dA D_X12_next 89 rfl) (sA_69 hM21 (by decide) (by decide)) ?_
                    refine x_iload_n (dA D_X12_next 90 rfl) rfl ?_
                    refine x_callV 11 [vA 69, vI 45, vI (rd M21 69 3), vI x2] [] (dA D_X12_next 91 rfl) cw_RX12_469 rfl rfl (Nat.le_of_ble_eq_true rfl) (by decide) rfl hd1 (zk k) (zk n) (sO_67 hM21) h (kI (fun r28 M27 h => ?_))
                    obtain ⟨hM27, h⟩ := h
                    refine x_istore (xs' := [vA 67, vI x1, vI x2, vI x3, vI x4, vI x5, vI 1, vI r28]) (dA D_X12_next 92 rfl) (by decide) rfl ?_
                    refine x_goto (tgt := 205) (dA D_X12_next 93 rfl) (by decide) ?_
                    refine x_iload (dA D_X12_next 116 rfl) rfl ?_
                    exact x_ireturn (dA D_X12_next 117 rfl) rfl h
                refine x_if_eqB (tgt := 129) (dA D_X12_next 68 rfl) (by decide) ⟨fun c12 => ?_, fun c12 => ?_⟩
                · exact hA (by first | omega | grind)
                · refine x_iload (dA D_X12_next 69 rfl) rfl ?_
                  refine x_iload (dA D_X12_next 70 rfl) rfl ?_
                  refine x_iadd (dA D_X12_next 71 rfl) ?_
                  refine x_if_neP (tgt := 131) (dA D_X12_next 72 rfl) (by decide) h17 ⟨fun c16 => ?_, fun c16 => ?_⟩
                  · exact hB (by first | omega | grind)
                  · exact hA (by first | omega | grind)
theorem C_X12_next {G : GG} {d : Nat} {x1 x2 x3 x4 x5 : Int} {M : MM} {Q : PV → MM → Prop} (h : X G Y_X12_next d 0 0 0 [vA 67, vI x1, vI x2, vI x3, vI x4, vI x5, vU, vU] [] M Q) : C G Y_X12_next d 0 0 [vA 67, vI x1, vI x2, vI x3, vI x4, vI x5] M Q := X.entry (by decide) (Nat.le_of_ble_eq_true rfl) rfl rfl rfl h
set_option maxRecDepth 100000 in
theorem B_X12_next_72 {G : GG} {d : Nat} {k n : Nat} {x1 x2 x3 x4 x5 : Int} {M : MM} {Q : PV → MM → Prop} (hd : 1 ≤ d) (hS : Sh M) (h : X G Y_X12_next d k n 104 [vA 67, vI x1, vI x2, vI x3, vI x4, vI x5, vI 0, vU] [] M Q) : X G Y_X12_next d k n 72 [vA 67, vI x1, vI x2, vI x3, vI x4, vI x5, vU, vU] [] M Q := by
  have hd1 : 1 ≤ d := by omega
  refine x_iconst (dA D_X12_next 42 rfl) ?_
  refine x_istore (xs' := [vA 67, vI x1, vI x2, vI x3, vI x4, vI x5, vI 0, vU]) (dA D_X12_next 43 rfl) (by decide) rfl ?_
  refine x_iload (dA D_X12_next 44 rfl) rfl ?_
  refine x_if_eqP (tgt := 104) (dA D_X12_next 45 rfl) (by decide) ⟨by decide, by decide⟩ ⟨fun c => ?_, fun c => ?_⟩
  · skip
    exact h
  · exact absurd (by decide) c
set_option maxRecDepth 100000 in
theorem B_X12_next_104 {G : GG} {d : Nat} {k n : Nat} {x1 x2 x3 x4 x5 x6 : Int} {M : MM} {Q : PV → MM → Prop} (hd : 1 ≤ d) (hS : Sh M) (h : Q (vI (-1)) M) : X G Y_X12_next d k n 104 [vA 67, vI x1, vI x2, vI x3, vI x4, vI x5, vI x6, vU] [] M Q := by
  have hd1 : 1 ≤ d := by omega
  refine x_iconst (dA D_X12_next 60 rfl) ?_
  refine x_istore (xs' := [vA 67, vI x1, vI x2, vI x3, vI x4, vI x5, vI 0, vU]) (dA D_X12_next 61 rfl) (by decide) rfl ?_
  refine x_iload (dA D_X12_next 62 rfl) rfl ?_
  refine x_if_eqP (tgt := 129) (dA D_X12_next 63 rfl) (by decide) ⟨by decide, by decide⟩ ⟨fun c => ?_, fun c => ?_⟩
  · skip
    refine x_iconst (dA D_X12_next 73 rfl) ?_
    exact x_ireturn (dA D_X12_next 74 rfl) rfl h
  · exact absurd (by decide) c
set_option maxRecDepth 100000 in
theorem B_X12_fixed_0 {G : GG} {d : Nat} {k n : Nat} {x1 : Int} {M : MM} {Q : PV → MM → Prop} (hd : 2 ≤ d) (hS : Sh M) (h : ∀ M1, M1 = wr M 67 0 0 → Sh M1 → C G Y_X12_findFixed (d - 1) 0 0 [vA 67] M1 (rU (fun M2 => Sh M2 ∧ inR x1 ∧ inR (rd M2 67 43) ∧ inL ((rd M2 67 43) - 1) ∧ ((¬ (((0 : Int) ≤ x1) ∧ (x1 ≤ ((rd M2 67 43) - 1))) → Q (vI (-1)) M2) ∧ (((0 : Int) ≤ x1) ∧ (x1 ≤ ((rd M2 67 43) - 1)) → 0 ≤ x1 ∧ x1 < 5 ∧ Q (vI (rd M2 89 x1)) M2))))) : X G Y_X12_fixed d k n 0 [vA 67, vI x1] [] M Q := by
  have hd1 : 1 ≤ d := by omega
  refine x_aload_n (dA D_X12_fixed 0 rfl) rfl ?_
  refine x_iconst (dA D_X12_fixed 1 rfl) ?_
  refine x_put (x := 0) (dA D_X12_fixed 2 rfl) fw_RX12_115 (fun _ _ hc => by cases hc; exact Or.inl rfl) (sO_67 hS) rfl rfl rfl ?_
  refine x_nmM (fun M1 eM1 => ?_)
  have hM1 : Sh M1 := eM1 ▸ (sW_67_0 hS)
  have h := h M1 eM1 hM1
  refine x_aload_n (dA D_X12_fixed 3 rfl) rfl ?_
  refine x_callV 11 [] [] (dA D_X12_fixed 4 rfl) cw_RX12_451 rfl rfl (Nat.le_of_ble_eq_true rfl) (by decide) rfl hd1 (zk k) (zk n) (sO_67 hM1) h (kU (fun M2 h => ?_))
  obtain ⟨hM2, h⟩ := h
  refine x_iload_n (dA D_X12_fixed 5 rfl) rfl ?_
  obtain ⟨h3, h⟩ := h
  refine x_i2l (dA D_X12_fixed 6 rfl) h3 ?_
  refine x_lconst (a := 0) (dA D_X12_fixed 7 rfl) (by decide) ?_
  refine x_aload_n (dA D_X12_fixed 8 rfl) rfl ?_
  refine x_get (v := vI (rd M2 67 43)) (dA D_X12_fixed 9 rfl) fw_RX12_437 (sO_67 hM2) rfl ?_
  obtain ⟨h4, h⟩ := h
  refine x_i2l (dA D_X12_fixed 10 rfl) h4 ?_
  refine x_lconst (a := 1) (dA D_X12_fixed 11 rfl) (by decide) ?_
  refine x_lsub (dA D_X12_fixed 12 rfl) ?_
  obtain ⟨h5, h⟩ := h
  refine x_callS [vL x1, vL 0, vL ((rd M2 67 43) - 1)] [] (dA D_X12_fixed 13 rfl) cw_RX12_125 rfl rfl (Nat.le_of_ble_eq_true rfl) hd1 (zk k) (zk n) (S_X12_in (inR_L h3) ⟨by decide, by decide⟩ h5 (by omega) ?_) (kI (fun _ _ h => h))
  show X G Y_X12_fixed d k n 22 [vA 67, vI x1] [vI (if ((0 : Int) ≤ x1) ∧ (x1 ≤ ((rd M2 67 43) - 1)) then 1 else 0)] M2 Q
  refine x_if_eqB (tgt := 34) (dA D_X12_fixed 14 rfl) (by decide) ⟨fun c => ?_, fun c => ?_⟩
  · have h := h.1 c
    refine x_iconst (dA D_X12_fixed 20 rfl) ?_
    exact x_ireturn (dA D_X12_fixed 21 rfl) rfl h
  · have h := h.2 c
    refine x_aload_n (dA D_X12_fixed 15 rfl) rfl ?_
    refine x_get (v := vA 89) (dA D_X12_fixed 16 rfl) fw_RX12_97 (sO_67 hM2) (congrArg (rfV G) (sR_67_42 hM2)) ?_
    refine x_iload_n (dA D_X12_fixed 17 rfl) rfl ?_
    obtain ⟨h6, h⟩ := h
    obtain ⟨h7, h⟩ := h
    refine x_iald (dA D_X12_fixed 18 rfl) (sA_89 hM2 h6 h7) ?_
    refine x_goto (tgt := 35) (dA D_X12_fixed 19 rfl) (by decide) ?_
    exact x_ireturn (dA D_X12_fixed 21 rfl) rfl h
theorem C_X12_fixed {G : GG} {d : Nat} {x1 : Int} {M : MM} {Q : PV → MM → Prop} (h : X G Y_X12_fixed d 0 0 0 [vA 67, vI x1] [] M Q) : C G Y_X12_fixed d 0 0 [vA 67, vI x1] M Q := X.entry (by decide) (Nat.le_of_ble_eq_true rfl) rfl rfl rfl h
set_option maxRecDepth 100000 in
theorem B_X12_rows_0 {G : GG} {d : Nat} {k n : Nat} {M : MM} {Q : PV → MM → Prop} (hd : 2 ≤ d) (hS : Sh M) (h : ∀ M1, M1 = wr M 67 0 0 → Sh M1 → C G Y_X12_findFixed (d - 1) 0 0 [vA 67] M1 (rU (fun M2 => Sh M2 ∧ Q (vI (rd M2 67 44)) M2))) : X G Y_X12_rows d k n 0 [vA 67] [] M Q := by
  have hd1 : 1 ≤ d := by omega
  refine x_aload_n (dA D_X12_rows 0 rfl) rfl ?_
  refine x_iconst (dA D_X12_rows 1 rfl) ?_
  refine x_put (x := 0) (dA D_X12_rows 2 rfl) fw_RX12_115 (fun _ _ hc => by cases hc; exact Or.inl rfl) (sO_67 hS) rfl rfl rfl ?_
  refine x_nmM (fun M1 eM1 => ?_)
  have hM1 : Sh M1 := eM1 ▸ (sW_67_0 hS)
  have h := h M1 eM1 hM1
  refine x_aload_n (dA D_X12_rows 3 rfl) rfl ?_
  refine x_callV 11 [] [] (dA D_X12_rows 4 rfl) cw_RX12_451 rfl rfl (Nat.le_of_ble_eq_true rfl) (by decide) rfl hd1 (zk k) (zk n) (sO_67 hM1) h (kU (fun M2 h => ?_))
  obtain ⟨hM2, h⟩ := h
  refine x_aload_n (dA D_X12_rows 5 rfl) rfl ?_
  refine x_get (v := vI (rd M2 67 44)) (dA D_X12_rows 6 rfl) fw_RX12_421 (sO_67 hM2) rfl ?_
  exact x_ireturn (dA D_X12_rows 7 rfl) rfl h
theorem C_X12_rows {G : GG} {d : Nat} {M : MM} {Q : PV → MM → Prop} (h : X G Y_X12_rows d 0 0 0 [vA 67] [] M Q) : C G Y_X12_rows d 0 0 [vA 67] M Q := X.entry (by decide) (Nat.le_of_ble_eq_true rfl) rfl rfl rfl h
set_option maxRecDepth 100000 in
theorem B_X12_seeing_0 {G : GG} {d : Nat} {k n : Nat} {M : MM} {Q : PV → MM → Prop} (hd : 2 ≤ d) (hS : Sh M) (h : ∀ M1, M1 = wr M 67 0 0 → Sh M1 → C G Y_X12_findRoot (d - 1) 0 0 [vA 67, vI 3, vI 8] M1 (rU (fun M2 => Sh M2 ∧ X G Y_X12_seeing d k n 14 [vA 67, vI 0] [] M2 Q))) : X G Y_X12_seeing d k n 0 [vA 67, vU] [] M Q := by
  have hd1 : 1 ≤ d := by omega
  refine x_aload_n (dA D_X12_seeing 0 rfl) rfl ?_
  refine x_iconst (dA D_X12_seeing 1 rfl) ?_
  refine x_put (x := 0) (dA D_X12_seeing 2 rfl) fw_RX12_115 (fun _ _ hc => by cases hc; exact Or.inl rfl) (sO_67 hS) rfl rfl rfl ?_
  refine x_nmM (fun M1 eM1 => ?_)
  have hM1 : Sh M1 := eM1 ▸ (sW_67_0 hS)
  have h := h M1 eM1 hM1
  refine x_aload_n (dA D_X12_seeing 3 rfl) rfl ?_
  refine x_iconst (dA D_X12_seeing 4 rfl) ?_
  refine x_bipush (dA D_X12_seeing 5 rfl) (by decide) (by decide) ?_
  refine x_callV 11 [vI 3, vI 8] [] (dA D_X12_seeing 6 rfl) cw_RX12_460 rfl rfl (Nat.le_of_ble_eq_true rfl) (by decide) rfl hd1 (zk k) (zk n) (sO_67 hM1) h (kU (fun M2 h => ?_))
  obtain ⟨hM2, h⟩ := h
  refine x_iconst (dA D_X12_seeing 7 rfl) ?_
  refine x_istore_n (xs' := [vA 67, vI 0]) (dA D_X12_seeing 8 rfl) (by decide) rfl ?_
  exact h
theorem C_X12_seeing {G : GG} {d : Nat} {M : MM} {Q : PV → MM → Prop} (h : X G Y_X12_seeing d 0 0 0 [vA 67, vU] [] M Q) : C G Y_X12_seeing d 0 0 [vA 67] M Q := X.entry (by decide) (Nat.le_of_ble_eq_true rfl) rfl rfl rfl h
set_option maxRecDepth 100000 in
theorem B_X12_seeing_14 {G : GG} {d : Nat} {k n : Nat} {x1 : Int} {M : MM} {Q : PV → MM → Prop} (hd : 2 ≤ d) (hS : Sh M) (h : inR x1 ∧ ((14 ≤ x1 → C G Y_X12_findRoot (d - 1) 0 0 [vA 67, vI 2, vI 8] M (rU (fun M2 => Sh M2 ∧ C G Y_X12_lessOf (d - 1) 0 0 [vA 67, vA 85, vI 0, vA 86] M2 (rI (fun r4 M3 => Sh M3 ∧ Q (vI r4) M3))))) ∧ (x1 < 14 → 0 ≤ x1 ∧ x1 < 14 ∧ ∀ M7, M7 = wr M 86 x1 (rd M 85 x1) → Sh M7 → X G Y_X12_seeing d k n 14 [vA 67, vI (x1 + 1)] [] M7 Q))) : X G Y_X12_seeing d k n 14 [vA 67, vI x1] [] M Q := by
  have hd1 : 1 ≤ d := by omega
  refine x_iload_n (dA D_X12_seeing 9 rfl) rfl ?_
  refine x_bipush (dA D_X12_seeing 10 rfl) (by decide) (by decide) ?_
  obtain ⟨h1, h⟩ := h
  refine x_icmp_geP (tgt := 38) (dA D_X12_seeing 11 rfl) (by decide) h1 ⟨by decide, by decide⟩ ⟨fun c => ?_, fun c => ?_⟩
  · have h := h.1 c
    refine x_aload_n (dA D_X12_seeing 22 rfl) rfl ?_
    refine x_iconst (dA D_X12_seeing 23 rfl) ?_
    refine x_bipush (dA D_X12_seeing 24 rfl) (by decide) (by decide) ?_
    refine x_callV 11 [vI 2, vI 8] [] (dA D_X12_seeing 25 rfl) cw_RX12_460 rfl rfl (Nat.le_of_ble_eq_true rfl) (by decide) rfl hd1 (zk k) (zk n) (sO_67 hS) h (kU (fun M2 h => ?_))
    obtain ⟨hM2, h⟩ := h
    refine x_aload_n (dA D_X12_seeing 26 rfl) rfl ?_
    refine x_aload_n (dA D_X12_seeing 27 rfl) rfl ?_
    refine x_get (v := vA 85) (dA D_X12_seeing 28 rfl) fw_RX12_82 (sO_67 hM2) (congrArg (rfV G) (sR_67_36 hM2)) ?_
    refine x_iconst (dA D_X12_seeing 29 rfl) ?_
    refine x_aload_n (dA D_X12_seeing 30 rfl) rfl ?_
    refine x_get (v := vA 86) (dA D_X12_seeing 31 rfl) fw_RX12_85 (sO_67 hM2) (congrArg (rfV G) (sR_67_37 hM2)) ?_
    refine x_callV 11 [vA 85, vI 0, vA 86] [] (dA D_X12_seeing 32 rfl) cw_RX12_473 rfl rfl (Nat.le_of_ble_eq_true rfl) (by decide) rfl hd1 (zk k) (zk n) (sO_67 hM2) h (kI (fun r4 M3 h => ?_))
    obtain ⟨hM3, h⟩ := h
    exact x_ireturn (dA D_X12_seeing 33 rfl) rfl h
  · have h := h.2 c
    refine x_aload_n (dA D_X12_seeing 12 rfl) rfl ?_
    refine x_get (v := vA 86) (dA D_X12_seeing 13 rfl) fw_RX12_85 (sO_67 hS) (congrArg (rfV G) (sR_67_37 hS)) ?_
    refine x_iload_n (dA D_X12_seeing 14 rfl) rfl ?_
    refine x_aload_n (dA D_X12_seeing 15 rfl) rfl ?_
    refine x_get (v := vA 85) (dA D_X12_seeing 16 rfl) fw_RX12_82 (sO_67 hS) (congrArg (rfV G) (sR_67_36 hS)) ?_
    refine x_iload_n (dA D_X12_seeing 17 rfl) rfl ?_
    obtain ⟨h5, h⟩ := h
    obtain ⟨h6, h⟩ := h
    refine x_lald (dA D_X12_seeing 18 rfl) (sA_85 hS h5 h6) ?_
    refine x_last (dA D_X12_seeing 19 rfl) (sA_86 hS h5 h6) ?_
    refine x_nmM (fun M7 eM7 => ?_)
    have hM7 : Sh M7 := eM7 ▸ (sW_86 hS)
    have h := h M7 eM7 hM7
    refine x_iinc (xs' := [vA 67, vI (x1 + 1)]) (dA D_X12_seeing 20 rfl) rfl (by decide) rfl ?_
    refine x_goto (tgt := 14) (dA D_X12_seeing 21 rfl) (by decide) ?_
    exact h
set_option maxRecDepth 100000 in
theorem B_X12_loss_0 {G : GG} {d : Nat} {k n : Nat} {x1 : Int} {M : MM} {Q : PV → MM → Prop} (hd : 2 ≤ d) (hS : Sh M) (h : ∀ M1, M1 = wr M 67 0 0 → Sh M1 → inR x1 ∧ ((¬ (((0 : Int) ≤ x1) ∧ (x1 ≤ (1 : Int))) → Q (vI (-1)) M1) ∧ (((0 : Int) ≤ x1) ∧ (x1 ≤ (1 : Int)) → (0 ≤ (30 + (3 * (if ¬ (((0 : Int) ≤ x1) ∧ (x1 ≤ (1 : Int))) then 0 else x1)))) ∧ ((30 + (3 * (if ¬ (((0 : Int) ≤ x1) ∧ (x1 ≤ (1 : Int))) then 0 else x1))) < 5460) ∧ (inR (rd M1 69 (30 + (3 * (if ¬ (((0 : Int) ≤ x1) ∧ (x1 ≤ (1 : Int))) then 0 else x1))))) ∧ (((rd M1 69 (30 + (3 * (if ¬ (((0 : Int) ≤ x1) ∧ (x1 ≤ (1 : Int))) then 0 else x1)))) ≠ 0 → C G Y_X12_reckon_ (d - 1) 0 0 [vA 67, vI 8, vI 1] M1 (rU (fun M10 => Sh M10 ∧ ∀ v15, v15 = 14 * ((((((((0 : Int) * 6) + (-1 : Int)) + 1) * 6) + ((rd M10 69 30) - (if x1 = 0 then 1 else 0))) * 6) + ((rd M10 69 33) - x1)) → X G Y_X12_loss d k n 89 [vA 67, vI x1, vI v15, vI 0] [] M10 Q))) ∧ ((rd M1 69 (30 + (3 * (if ¬ (((0 : Int) ≤ x1) ∧ (x1 ≤ (1 : Int))) then 0 else x1)))) = 0 → Q (vI (-1)) M1))))) : X G Y_X12_loss d k n 0 [vA 67, vI x1, vU, vU] [] M Q := by
  have hd1 : 1 ≤ d := by omega
  refine x_aload_n (dA D_X12_loss 0 rfl) rfl ?_
  refine x_iconst (dA D_X12_loss 1 rfl) ?_
  refine x_put (x := 0) (dA D_X12_loss 2 rfl) fw_RX12_115 (fun _ _ hc => by cases hc; exact Or.inl rfl) (sO_67 hS) rfl rfl rfl ?_
  refine x_nmM (fun M1 eM1 => ?_)
  have hM1 : Sh M1 := eM1 ▸ (sW_67_0 hS)
  have h := h M1 eM1 hM1
  refine x_iload_n (dA D_X12_loss 3 rfl) rfl ?_
  obtain ⟨h2, h⟩ := h
  refine x_i2l (dA D_X12_loss 4 rfl) h2 ?_
  refine x_lconst (a := 0) (dA D_X12_loss 5 rfl) (by decide) ?_
  refine x_lconst (a := 1) (dA D_X12_loss 6 rfl) (by decide) ?_
  refine x_callS [vL x1, vL 0, vL 1] [] (dA D_X12_loss 7 rfl) cw_RX12_125 rfl rfl (Nat.le_of_ble_eq_true rfl) hd1 (zk k) (zk n) (S_X12_in (inR_L h2) ⟨by decide, by decide⟩ ⟨by decide, by decide⟩ (by omega) ?_) (kI (fun _ _ h => h))
  show X G Y_X12_loss d k n 12 [vA 67, vI x1, vU, vU] [vI (if ((0 : Int) ≤ x1) ∧ (x1 ≤ (1 : Int)) then 1 else 0)] M1 Q
  refine x_if_eqB (tgt := 43) (dA D_X12_loss 8 rfl) (by decide) ⟨fun c => ?_, fun c => ?_⟩
  · have h := h.1 c
    refine x_iconst (dA D_X12_loss 26 rfl) ?_
    exact x_ireturn (dA D_X12_loss 27 rfl) rfl h
  · have h := h.2 c
    refine x_aload_n (dA D_X12_loss 9 rfl) rfl ?_
    refine x_get (v := vA 69) (dA D_X12_loss 10 rfl) fw_RX12_13 (sO_67 hM1) (congrArg (rfV G) (sR_67_3 hM1)) ?_
    refine x_bipush (dA D_X12_loss 11 rfl) (by decide) (by decide) ?_
    refine x_iconst (dA D_X12_loss 12 rfl) ?_
    refine x_iload_n (dA D_X12_loss 13 rfl) rfl ?_
    refine x_i2l (dA D_X12_loss 14 rfl) h2 ?_
    refine x_lconst (a := 0) (dA D_X12_loss 15 rfl) (by decide) ?_
    refine x_lconst (a := 1) (dA D_X12_loss 16 rfl) (by decide) ?_
    refine x_callS [vL x1, vL 0, vL 1] [vI 3, vI 30, vA 69] (dA D_X12_loss 17 rfl) cw_RX12_125 rfl rfl (Nat.le_of_ble_eq_true rfl) hd1 (zk k) (zk n) (S_X12_in (inR_L h2) ⟨by decide, by decide⟩ ⟨by decide, by decide⟩ (by omega) ?_) (kI (fun _ _ h => h))
    show X G Y_X12_loss d k n 29 [vA 67, vI x1, vU, vU] [vI (if ((0 : Int) ≤ x1) ∧ (x1 ≤ (1 : Int)) then 1 else 0), vI 3, vI 30, vA 69] M1 Q
    have hJ : X G Y_X12_loss d k n 37 [vA 67, vI x1, vU, vU] [vI (if ¬ (((0 : Int) ≤ x1) ∧ (x1 ≤ (1 : Int))) then 0 else x1), vI 3, vI 30, vA 69] M1 Q := by
      refine x_imul (dA D_X12_loss 22 rfl) ?_
      refine x_iadd (dA D_X12_loss 23 rfl) ?_
      obtain ⟨h7, h⟩ := h
      obtain ⟨h8, h⟩ := h
      refine x_iald (dA D_X12_loss 24 rfl) (sA_69 hM1 h7 h8) ?_
      obtain ⟨h9, h⟩ := h
      refine x_if_neP (tgt := 45) (dA D_X12_loss 25 rfl) (by decide) h9 ⟨fun c => ?_, fun c => ?_⟩
      · have h := h.1 c
        refine x_aload_n (dA D_X12_loss 28 rfl) rfl ?_
        refine x_bipush (dA D_X12_loss 29 rfl) (by decide) (by decide) ?_
        refine x_iconst (dA D_X12_loss 30 rfl) ?_
        refine x_callV 11 [vI 8, vI 1] [] (dA D_X12_loss 31 rfl) cw_RX12_448 rfl rfl (Nat.le_of_ble_eq_true rfl) (by decide) rfl hd1 (zk k) (zk n) (sO_67 hM1) h (kU (fun M10 h => ?_))
        obtain ⟨hM10, h⟩ := h
        refine x_bipush (dA D_X12_loss 32 rfl) (by decide) (by decide) ?_
        refine x_iconst (dA D_X12_loss 33 rfl) ?_
        refine x_iconst (dA D_X12_loss 34 rfl) ?_
        refine x_aload_n (dA D_X12_loss 35 rfl) rfl ?_
        refine x_get (v := vA 69) (dA D_X12_loss 36 rfl) fw_RX12_13 (sO_67 hM10) (congrArg (rfV G) (sR_67_3 hM10)) ?_
        refine x_bipush (dA D_X12_loss 37 rfl) (by decide) (by decide) ?_
        refine x_iald (dA D_X12_loss 38 rfl) (sA_69 hM10 (by decide) (by decide)) ?_
        refine x_iload_n (dA D_X12_loss 39 rfl) rfl ?_
        have hJ : X G Y_X12_loss d k n 72 [vA 67, vI x1, vU, vU] [vI (if x1 = 0 then 1 else 0), vI (rd M10 69 30), vI (-1), vI 0, vI 14] M10 Q := by
          refine x_isub (dA D_X12_loss 44 rfl) ?_
          refine x_aload_n (dA D_X12_loss 45 rfl) rfl ?_
          refine x_get (v := vA 69) (dA D_X12_loss 46 rfl) fw_RX12_13 (sO_67 hM10) (congrArg (rfV G) (sR_67_3 hM10)) ?_
          refine x_bipush (dA D_X12_loss 47 rfl) (by decide) (by decide) ?_
          refine x_iald (dA D_X12_loss 48 rfl) (sA_69 hM10 (by decide) (by decide)) ?_
          refine x_iload_n (dA D_X12_loss 49 rfl) rfl ?_
          refine x_isub (dA D_X12_loss 50 rfl) ?_
          refine x_callS [vI 0, vI (-1), vI ((rd M10 69 30) - (if x1 = 0 then 1 else 0)), vI ((rd M10 69 33) - x1)] [vI 14] (dA D_X12_loss 51 rfl) cw_RX12_395 rfl rfl (Nat.le_of_ble_eq_true rfl) hd1 (zk k) (zk n) (S_X12_stateOf  (by omega) ?_) (kI (fun _ _ h => h))
          show X G Y_X12_loss d k n 85 [vA 67, vI x1, vU, vU] [vI ((((((((0 : Int) * 6) + (-1 : Int)) + 1) * 6) + ((rd M10 69 30) - (if x1 = 0 then 1 else 0))) * 6) + ((rd M10 69 33) - x1)), vI 14] M10 Q
          refine x_imul (dA D_X12_loss 52 rfl) ?_
          refine x_nmI (fun v15 ev15 => ?_)
          have h := h v15 ev15
          refine x_istore_n (xs' := [vA 67, vI x1, vI v15, vU]) (dA D_X12_loss 53 rfl) (by decide) rfl ?_
          refine x_iconst (dA D_X12_loss 54 rfl) ?_
          refine x_istore_n (xs' := [vA 67, vI x1, vI v15, vI 0]) (dA D_X12_loss 55 rfl) (by decide) rfl ?_
          exact h
        refine x_if_neP (tgt := 71) (dA D_X12_loss 40 rfl) (by decide) h2 ⟨fun c11 => ?_, fun c11 => ?_⟩
        · refine x_iconst (dA D_X12_loss 43 rfl) ?_
          have e0 : (if x1 = 0 then (1 : Int) else 0) = 0 := if_neg (by first | omega | grind)
          rw [e0] at hJ
          exact hJ
        · refine x_iconst (dA D_X12_loss 41 rfl) ?_
          refine x_goto (tgt := 72) (dA D_X12_loss 42 rfl) (by decide) ?_
          have e0 : (if x1 = 0 then (1 : Int) else 0) = 1 := if_pos (by first | omega | grind)
          rw [e0] at hJ
          exact hJ
      · have h := h.2 c
        refine x_iconst (dA D_X12_loss 26 rfl) ?_
        exact x_ireturn (dA D_X12_loss 27 rfl) rfl h
    refine x_if_eqB (tgt := 36) (dA D_X12_loss 18 rfl) (by decide) ⟨fun c3 => ?_, fun c3 => ?_⟩
    · refine x_iconst (dA D_X12_loss 21 rfl) ?_
      rw [if_pos c3] at hJ
      exact hJ
    · refine x_iload_n (dA D_X12_loss 19 rfl) rfl ?_
      refine x_goto (tgt := 37) (dA D_X12_loss 20 rfl) (by decide) ?_
      rw [if_neg (by first | omega | grind)] at hJ
      exact hJ
theorem C_X12_loss {G : GG} {d : Nat} {x1 : Int} {M : MM} {Q : PV → MM → Prop} (h : X G Y_X12_loss d 0 0 0 [vA 67, vI x1, vU, vU] [] M Q) : C G Y_X12_loss d 0 0 [vA 67, vI x1] M Q := X.entry (by decide) (Nat.le_of_ble_eq_true rfl) rfl rfl rfl h
set_option maxRecDepth 100000 in
theorem B_X12_loss_89 {G : GG} {d : Nat} {k n : Nat} {x1 x2 x3 : Int} {M : MM} {Q : PV → MM → Prop} (hd : 3 ≤ d) (hS : Sh M) (h : inR x3 ∧ ((14 ≤ x3 → C G Y_X12_lessOf (d - 1) 0 0 [vA 67, vA 81, vI (14 * ((((((((0 : Int) * 6) + (-1 : Int)) + 1) * 6) + (rd M 69 30)) * 6) + (rd M 69 33))), vA 86] M (rI (fun r3 M2 => Sh M2 ∧ Q (vI r3) M2))) ∧ (x3 < 14 → 0 ≤ (x2 + x3) ∧ (x2 + x3) < 96768 ∧ 0 ≤ x3 ∧ x3 < 14 ∧ ∀ M8, M8 = wr M 86 x3 (rd M 81 (x2 + x3)) → Sh M8 → X G Y_X12_loss d k n 89 [vA 67, vI x1, vI x2, vI (x3 + 1)] [] M8 Q))) : X G Y_X12_loss d k n 89 [vA 67, vI x1, vI x2, vI x3] [] M Q := by
  have hd1 : 1 ≤ d := by omega
  refine x_iload_n (dA D_X12_loss 56 rfl) rfl ?_
  refine x_bipush (dA D_X12_loss 57 rfl) (by decide) (by decide) ?_
  obtain ⟨h1, h⟩ := h
  refine x_icmp_geP (tgt := 115) (dA D_X12_loss 58 rfl) (by decide) h1 ⟨by decide, by decide⟩ ⟨fun c => ?_, fun c => ?_⟩
  · have h := h.1 c
    refine x_aload_n (dA D_X12_loss 71 rfl) rfl ?_
    refine x_aload_n (dA D_X12_loss 72 rfl) rfl ?_
    refine x_get (v := vA 81) (dA D_X12_loss 73 rfl) fw_RX12_70 (sO_67 hS) (congrArg (rfV G) (sR_67_32 hS)) ?_
    refine x_aload_n (dA D_X12_loss 74 rfl) rfl ?_
    refine x_callV 11 [] [vA 81, vA 67] (dA D_X12_loss 75 rfl) cw_RX12_434 rfl rfl (Nat.le_of_ble_eq_true rfl) (by decide) rfl hd1 (zk k) (zk n) (sO_67 hS) (S_X12_rootAt hS  (by omega) ?_) (kI (fun _ _ h => h))
    show X G Y_X12_loss d k n 124 [vA 67, vI x1, vI x2, vI x3] [vI (14 * ((((((((0 : Int) * 6) + (-1 : Int)) + 1) * 6) + (rd M 69 30)) * 6) + (rd M 69 33))), vA 81, vA 67] M Q
    refine x_aload_n (dA D_X12_loss 76 rfl) rfl ?_
    refine x_get (v := vA 86) (dA D_X12_loss 77 rfl) fw_RX12_85 (sO_67 hS) (congrArg (rfV G) (sR_67_37 hS)) ?_
    refine x_callV 11 [vA 81, vI (14 * ((((((((0 : Int) * 6) + (-1 : Int)) + 1) * 6) + (rd M 69 30)) * 6) + (rd M 69 33))), vA 86] [] (dA D_X12_loss 78 rfl) cw_RX12_473 rfl rfl (Nat.le_of_ble_eq_true rfl) (by decide) rfl hd1 (zk k) (zk n) (sO_67 hS) h (kI (fun r3 M2 h => ?_))
    obtain ⟨hM2, h⟩ := h
    exact x_ireturn (dA D_X12_loss 79 rfl) rfl h
  · have h := h.2 c
    refine x_aload_n (dA D_X12_loss 59 rfl) rfl ?_
    refine x_get (v := vA 86) (dA D_X12_loss 60 rfl) fw_RX12_85 (sO_67 hS) (congrArg (rfV G) (sR_67_37 hS)) ?_
    refine x_iload_n (dA D_X12_loss 61 rfl) rfl ?_
    refine x_aload_n (dA D_X12_loss 62 rfl) rfl ?_
    refine x_get (v := vA 81) (dA D_X12_loss 63 rfl) fw_RX12_70 (sO_67 hS) (congrArg (rfV G) (sR_67_32 hS)) ?_
    refine x_iload_n (dA D_X12_loss 64 rfl) rfl ?_
    refine x_iload_n (dA D_X12_loss 65 rfl) rfl ?_
    refine x_iadd (dA D_X12_loss 66 rfl) ?_
    obtain ⟨h4, h⟩ := h
    obtain ⟨h5, h⟩ := h
    refine x_lald (dA D_X12_loss 67 rfl) (sA_81 hS h4 h5) ?_
    obtain ⟨h6, h⟩ := h
    obtain ⟨h7, h⟩ := h
    refine x_last (dA D_X12_loss 68 rfl) (sA_86 hS h6 h7) ?_
    refine x_nmM (fun M8 eM8 => ?_)
    have hM8 : Sh M8 := eM8 ▸ (sW_86 hS)
    have h := h M8 eM8 hM8
    refine x_iinc (xs' := [vA 67, vI x1, vI x2, vI (x3 + 1)]) (dA D_X12_loss 69 rfl) rfl (by decide) rfl ?_
    refine x_goto (tgt := 89) (dA D_X12_loss 70 rfl) (by decide) ?_
    exact h
set_option maxRecDepth 100000 in
theorem B_X12_evening_0 {G : GG} {d : Nat} {k n : Nat} {x1 : Int} {M : MM} {Q : PV → MM → Prop} (hd : 2 ≤ d) (hS : Sh M) (h : ∀ M1, M1 = wr M 67 0 0 → Sh M1 → inR x1 ∧ ((((0 : Int) ≤ x1) ∧ (x1 ≤ (1 : Int)) → ∀ M3, M3 = wr M1 67 39 x1 → Sh M3 → C G Y_X12_reckon_ (d - 1) 0 0 [vA 67, vI 8, vI 1] M3 (rU (fun M4 => Sh M4 ∧ ∀ M5, M5 = wr M4 67 39 (-1) → Sh M5 → X G Y_X12_evening d k n 36 [vA 67, vI x1, vI 0] [] M5 Q))) ∧ (¬ (((0 : Int) ≤ x1) ∧ (x1 ≤ (1 : Int))) → Q (vI (-1)) M1))) : X G Y_X12_evening d k n 0 [vA 67, vI x1, vU] [] M Q := by
  have hd1 : 1 ≤ d := by omega
  refine x_aload_n (dA D_X12_evening 0 rfl) rfl ?_
  refine x_iconst (dA D_X12_evening 1 rfl) ?_
  refine x_put (x := 0) (dA D_X12_evening 2 rfl) fw_RX12_115 (fun _ _ hc => by cases hc; exact Or.inl rfl) (sO_67 hS) rfl rfl rfl ?_
  refine x_nmM (fun M1 eM1 => ?_)
  have hM1 : Sh M1 := eM1 ▸ (sW_67_0 hS)
  have h := h M1 eM1 hM1
  refine x_iload_n (dA D_X12_evening 3 rfl) rfl ?_
  obtain ⟨h2, h⟩ := h
  refine x_i2l (dA D_X12_evening 4 rfl) h2 ?_
  refine x_lconst (a := 0) (dA D_X12_evening 5 rfl) (by decide) ?_
  refine x_lconst (a := 1) (dA D_X12_evening 6 rfl) (by decide) ?_
  refine x_callS [vL x1, vL 0, vL 1] [] (dA D_X12_evening 7 rfl) cw_RX12_125 rfl rfl (Nat.le_of_ble_eq_true rfl) hd1 (zk k) (zk n) (S_X12_in (inR_L h2) ⟨by decide, by decide⟩ ⟨by decide, by decide⟩ (by omega) ?_) (kI (fun _ _ h => h))
  show X G Y_X12_evening d k n 12 [vA 67, vI x1, vU] [vI (if ((0 : Int) ≤ x1) ∧ (x1 ≤ (1 : Int)) then 1 else 0)] M1 Q
  refine x_if_neB (tgt := 17) (dA D_X12_evening 8 rfl) (by decide) ⟨fun c => ?_, fun c => ?_⟩
  · have h := h.1 c
    refine x_aload_n (dA D_X12_evening 11 rfl) rfl ?_
    refine x_iload_n (dA D_X12_evening 12 rfl) rfl ?_
    refine x_put (x := x1) (dA D_X12_evening 13 rfl) fw_RX12_91 (fun _ _ hc => by cases hc; exact Or.inl rfl) (sO_67 hM1) rfl rfl rfl ?_
    refine x_nmM (fun M3 eM3 => ?_)
    have hM3 : Sh M3 := eM3 ▸ (sW_67_39 hM1)
    have h := h M3 eM3 hM3
    refine x_aload_n (dA D_X12_evening 14 rfl) rfl ?_
    refine x_bipush (dA D_X12_evening 15 rfl) (by decide) (by decide) ?_
    refine x_iconst (dA D_X12_evening 16 rfl) ?_
    refine x_callV 11 [vI 8, vI 1] [] (dA D_X12_evening 17 rfl) cw_RX12_448 rfl rfl (Nat.le_of_ble_eq_true rfl) (by decide) rfl hd1 (zk k) (zk n) (sO_67 hM3) h (kU (fun M4 h => ?_))
    obtain ⟨hM4, h⟩ := h
    refine x_aload_n (dA D_X12_evening 18 rfl) rfl ?_
    refine x_iconst (dA D_X12_evening 19 rfl) ?_
    refine x_put (x := (-1)) (dA D_X12_evening 20 rfl) fw_RX12_91 (fun _ _ hc => by cases hc; exact Or.inl rfl) (sO_67 hM4) rfl rfl rfl ?_
    refine x_nmM (fun M5 eM5 => ?_)
    have hM5 : Sh M5 := eM5 ▸ (sW_67_39 hM4)
    have h := h M5 eM5 hM5
    refine x_iconst (dA D_X12_evening 21 rfl) ?_
    refine x_istore_n (xs' := [vA 67, vI x1, vI 0]) (dA D_X12_evening 22 rfl) (by decide) rfl ?_
    exact h
  · have h := h.2 c
    refine x_iconst (dA D_X12_evening 9 rfl) ?_
    exact x_ireturn (dA D_X12_evening 10 rfl) rfl h
theorem C_X12_evening {G : GG} {d : Nat} {x1 : Int} {M : MM} {Q : PV → MM → Prop} (h : X G Y_X12_evening d 0 0 0 [vA 67, vI x1, vU] [] M Q) : C G Y_X12_evening d 0 0 [vA 67, vI x1] M Q := X.entry (by decide) (Nat.le_of_ble_eq_true rfl) rfl rfl rfl h
set_option maxRecDepth 100000 in
theorem B_X12_evening_36 {G : GG} {d : Nat} {k n : Nat} {x1 x2 : Int} {M : MM} {Q : PV → MM → Prop} (hd : 3 ≤ d) (hS : Sh M) (h : inR x2 ∧ ((14 ≤ x2 → C G Y_X12_digits (d - 1) 0 0 [vA 85, vI 98] M (rL (fun r3 M2 => Sh M2 ∧ Q (vI r3) M2))) ∧ (x2 < 14 → 0 ≤ ((14 * ((((((((0 : Int) * 6) + (-1 : Int)) + 1) * 6) + (rd M 69 30)) * 6) + (rd M 69 33))) + x2) ∧ ((14 * ((((((((0 : Int) * 6) + (-1 : Int)) + 1) * 6) + (rd M 69 30)) * 6) + (rd M 69 33))) + x2) < 96768 ∧ 0 ≤ x2 ∧ x2 < 14 ∧ ∀ M8, M8 = wr M 85 x2 (rd M 81 ((14 * ((((((((0 : Int) * 6) + (-1 : Int)) + 1) * 6) + (rd M 69 30)) * 6) + (rd M 69 33))) + x2)) → Sh M8 → X G Y_X12_evening d k n 36 [vA 67, vI x1, vI (x2 + 1)] [] M8 Q))) : X G Y_X12_evening d k n 36 [vA 67, vI x1, vI x2] [] M Q := by
  have hd1 : 1 ≤ d := by omega
  refine x_iload_n (dA D_X12_evening 23 rfl) rfl ?_
  refine x_bipush (dA D_X12_evening 24 rfl) (by decide) (by decide) ?_
  obtain ⟨h1, h⟩ := h
  refine x_icmp_geP (tgt := 65) (dA D_X12_evening 25 rfl) (by decide) h1 ⟨by decide, by decide⟩ ⟨fun c => ?_, fun c => ?_⟩
  · have h := h.1 c
    refine x_aload_n (dA D_X12_evening 39 rfl) rfl ?_
    refine x_get (v := vA 85) (dA D_X12_evening 40 rfl) fw_RX12_82 (sO_67 hS) (congrArg (rfV G) (sR_67_36 hS)) ?_
    refine x_bipush (dA D_X12_evening 41 rfl) (by decide) (by decide) ?_
    refine x_callS [vA 85, vI 98] [] (dA D_X12_evening 42 rfl) cw_RX12_463 rfl rfl (Nat.le_of_ble_eq_true rfl) hd1 (zk k) (zk n) h (kL' (fun r3 M2 h => ?_))
    obtain ⟨hM2, h⟩ := h
    refine x_l2i (dA D_X12_evening 43 rfl) ?_
    exact x_ireturn (dA D_X12_evening 44 rfl) rfl h
  · have h := h.2 c
    refine x_aload_n (dA D_X12_evening 26 rfl) rfl ?_
    refine x_get (v := vA 85) (dA D_X12_evening 27 rfl) fw_RX12_82 (sO_67 hS) (congrArg (rfV G) (sR_67_36 hS)) ?_
    refine x_iload_n (dA D_X12_evening 28 rfl) rfl ?_
    refine x_aload_n (dA D_X12_evening 29 rfl) rfl ?_
    refine x_get (v := vA 81) (dA D_X12_evening 30 rfl) fw_RX12_70 (sO_67 hS) (congrArg (rfV G) (sR_67_32 hS)) ?_
    refine x_aload_n (dA D_X12_evening 31 rfl) rfl ?_
    refine x_callV 11 [] [vA 81, vI x2, vA 85] (dA D_X12_evening 32 rfl) cw_RX12_434 rfl rfl (Nat.le_of_ble_eq_true rfl) (by decide) rfl hd1 (zk k) (zk n) (sO_67 hS) (S_X12_rootAt hS  (by omega) ?_) (kI (fun _ _ h => h))
    show X G Y_X12_evening d k n 55 [vA 67, vI x1, vI x2] [vI (14 * ((((((((0 : Int) * 6) + (-1 : Int)) + 1) * 6) + (rd M 69 30)) * 6) + (rd M 69 33))), vA 81, vI x2, vA 85] M Q
    refine x_iload_n (dA D_X12_evening 33 rfl) rfl ?_
    refine x_iadd (dA D_X12_evening 34 rfl) ?_
    obtain ⟨h4, h⟩ := h
    obtain ⟨h5, h⟩ := h
    refine x_lald (dA D_X12_evening 35 rfl) (sA_81 hS h4 h5) ?_
    obtain ⟨h6, h⟩ := h
    obtain ⟨h7, h⟩ := h
    refine x_last (dA D_X12_evening 36 rfl) (sA_85 hS h6 h7) ?_
    refine x_nmM (fun M8 eM8 => ?_)
    have hM8 : Sh M8 := eM8 ▸ (sW_85 hS)
    have h := h M8 eM8 hM8
    refine x_iinc (xs' := [vA 67, vI x1, vI (x2 + 1)]) (dA D_X12_evening 37 rfl) rfl (by decide) rfl ?_
    refine x_goto (tgt := 36) (dA D_X12_evening 38 rfl) (by decide) ?_
    exact h
set_option maxRecDepth 100000 in
theorem B_X12_odds_0 {G : GG} {d : Nat} {k n : Nat} {x1 x2 : Int} {M : MM} {Q : PV → MM → Prop} (hd : 3 ≤ d) (hS : Sh M) (h : ∀ M1, M1 = wr M 67 0 0 → Sh M1 → inR x1 ∧ ((¬ (((0 : Int) ≤ x1) ∧ (x1 ≤ (3 : Int))) → X G Y_X12_odds d k n 41 [vA 67, vI x1, vI x2, vU] [] M1 Q) ∧ (((0 : Int) ≤ x1) ∧ (x1 ≤ (3 : Int)) → inR x2 ∧ ((¬ (((0 : Int) ≤ x2) ∧ (x2 ≤ (7 : Int))) → X G Y_X12_odds d k n 41 [vA 67, vI x1, vI x2, vU] [] M1 Q) ∧ (((0 : Int) ≤ x2) ∧ (x2 ≤ (7 : Int)) → ((4 < x2 → X G Y_X12_odds d k n 37 [vA 67, vI x1, vI x2, vU] [] M1 Q) ∧ (x2 ≤ 4 → inR (rd M1 69 0) ∧ inL ((rd M1 69 0) - 1) ∧ ((¬ (((0 : Int) ≤ x2) ∧ (x2 ≤ ((rd M1 69 0) - 1))) → X G Y_X12_odds d k n 41 [vA 67, vI x1, vI x2, vU] [] M1 Q) ∧ (((0 : Int) ≤ x2) ∧ (x2 ≤ ((rd M1 69 0) - 1)) → X G Y_X12_odds d k n 37 [vA 67, vI x1, vI x2, vU] [] M1 Q))))))))) : X G Y_X12_odds d k n 0 [vA 67, vI x1, vI x2, vU] [] M Q := by
  have hd1 : 1 ≤ d := by omega
  refine x_aload_n (dA D_X12_odds 0 rfl) rfl ?_
  refine x_iconst (dA D_X12_odds 1 rfl) ?_
  refine x_put (x := 0) (dA D_X12_odds 2 rfl) fw_RX12_115 (fun _ _ hc => by cases hc; exact Or.inl rfl) (sO_67 hS) rfl rfl rfl ?_
  refine x_nmM (fun M1 eM1 => ?_)
  have hM1 : Sh M1 := eM1 ▸ (sW_67_0 hS)
  have h := h M1 eM1 hM1
  refine x_iload_n (dA D_X12_odds 3 rfl) rfl ?_
  obtain ⟨h2, h⟩ := h
  refine x_callS [vI x1] [] (dA D_X12_odds 4 rfl) cw_RX12_457 rfl rfl (Nat.le_of_ble_eq_true rfl) hd1 (zk k) (zk n) (S_X12_isChooser h2 (by omega) ?_) (kI (fun _ _ h => h))
  show X G Y_X12_odds d k n 9 [vA 67, vI x1, vI x2, vU] [vI (if ((0 : Int) ≤ x1) ∧ (x1 ≤ (3 : Int)) then 1 else 0)] M1 Q
  refine x_if_eqB (tgt := 41) (dA D_X12_odds 5 rfl) (by decide) ⟨fun c => ?_, fun c => ?_⟩
  · have h := h.1 c
    exact h
  · have h := h.2 c
    refine x_iload_n (dA D_X12_odds 6 rfl) rfl ?_
    obtain ⟨h3, h⟩ := h
    refine x_i2l (dA D_X12_odds 7 rfl) h3 ?_
    refine x_lconst (a := 0) (dA D_X12_odds 8 rfl) (by decide) ?_
    refine x_ldc2 (a := 7) (dA D_X12_odds 9 rfl) kl_RX12_477 (by decide) ?_
    refine x_callS [vL x2, vL 0, vL 7] [] (dA D_X12_odds 10 rfl) cw_RX12_125 rfl rfl (Nat.le_of_ble_eq_true rfl) hd1 (zk k) (zk n) (S_X12_in (inR_L h3) ⟨by decide, by decide⟩ ⟨by decide, by decide⟩ (by omega) ?_) (kI (fun _ _ h => h))
    show X G Y_X12_odds d k n 21 [vA 67, vI x1, vI x2, vU] [vI (if ((0 : Int) ≤ x2) ∧ (x2 ≤ (7 : Int)) then 1 else 0)] M1 Q
    refine x_if_eqB (tgt := 41) (dA D_X12_odds 11 rfl) (by decide) ⟨fun c => ?_, fun c => ?_⟩
    · have h := h.1 c
      exact h
    · have h := h.2 c
      refine x_iload_n (dA D_X12_odds 12 rfl) rfl ?_
      refine x_iconst (dA D_X12_odds 13 rfl) ?_
      refine x_icmp_gtP (tgt := 37) (dA D_X12_odds 14 rfl) (by decide) h3 ⟨by decide, by decide⟩ ⟨fun c => ?_, fun c => ?_⟩
      · have h := h.1 c
        exact h
      · have h := h.2 c
        refine x_aload_n (dA D_X12_odds 15 rfl) rfl ?_
        refine x_iload_n (dA D_X12_odds 16 rfl) rfl ?_
        obtain ⟨h4, h⟩ := h
        obtain ⟨h5, h⟩ := h
        refine x_callV 11 [vI x2] [] (dA D_X12_odds 17 rfl) cw_RX12_150 rfl rfl (Nat.le_of_ble_eq_true rfl) (by decide) rfl hd1 (zk k) (zk n) (sO_67 hM1) (S_X12_isScene hM1 h3 h4 h5 (by omega) ?_) (kI (fun _ _ h => h))
        show X G Y_X12_odds d k n 34 [vA 67, vI x1, vI x2, vU] [vI (if ((0 : Int) ≤ x2) ∧ (x2 ≤ ((rd M1 69 0) - 1)) then 1 else 0)] M1 Q
        refine x_if_eqB (tgt := 41) (dA D_X12_odds 18 rfl) (by decide) ⟨fun c => ?_, fun c => ?_⟩
        · have h := h.1 c
          exact h
        · have h := h.2 c
          exact h
theorem C_X12_odds {G : GG} {d : Nat} {x1 x2 : Int} {M : MM} {Q : PV → MM → Prop} (h : X G Y_X12_odds d 0 0 0 [vA 67, vI x1, vI x2, vU] [] M Q) : C G Y_X12_odds d 0 0 [vA 67, vI x1, vI x2] M Q := X.entry (by decide) (Nat.le_of_ble_eq_true rfl) rfl rfl rfl h
set_option maxRecDepth 100000 in
theorem B_X12_odds_37 {G : GG} {d : Nat} {k n : Nat} {x1 x2 : Int} {M : MM} {Q : PV → MM → Prop} (hd : 2 ≤ d) (hS : Sh M) (h : C G Y_X12_findRoot (d - 1) 0 0 [vA 67, vI x1, vI x2] M (rU (fun M1 => Sh M1 ∧ inR x2 ∧ C G Y_X12_digits (d - 1) 0 0 [vA 85, vI (if x2 ≠ 7 then 94 else 98)] M1 (rL (fun r8 M7 => Sh M7 ∧ Q (vI r8) M7))))) : X G Y_X12_odds d k n 37 [vA 67, vI x1, vI x2, vU] [] M Q := by
  have hd1 : 1 ≤ d := by omega
  refine x_iconst (dA D_X12_odds 19 rfl) ?_
  refine x_goto (tgt := 42) (dA D_X12_odds 20 rfl) (by decide) ?_
  refine x_istore_n (xs' := [vA 67, vI x1, vI x2, vI 1]) (dA D_X12_odds 22 rfl) (by decide) rfl ?_
  refine x_iload_n (dA D_X12_odds 23 rfl) rfl ?_
  refine x_if_neP (tgt := 49) (dA D_X12_odds 24 rfl) (by decide) ⟨by decide, by decide⟩ ⟨fun c => ?_, fun c => ?_⟩
  · skip
    refine x_aload_n (dA D_X12_odds 27 rfl) rfl ?_
    refine x_iload_n (dA D_X12_odds 28 rfl) rfl ?_
    refine x_iload_n (dA D_X12_odds 29 rfl) rfl ?_
    refine x_callV 11 [vI x1, vI x2] [] (dA D_X12_odds 30 rfl) cw_RX12_460 rfl rfl (Nat.le_of_ble_eq_true rfl) (by decide) rfl hd1 (zk k) (zk n) (sO_67 hS) h (kU (fun M1 h => ?_))
    obtain ⟨hM1, h⟩ := h
    refine x_aload_n (dA D_X12_odds 31 rfl) rfl ?_
    refine x_get (v := vA 85) (dA D_X12_odds 32 rfl) fw_RX12_82 (sO_67 hM1) (congrArg (rfV G) (sR_67_36 hM1)) ?_
    refine x_iload_n (dA D_X12_odds 33 rfl) rfl ?_
    refine x_bipush (dA D_X12_odds 34 rfl) (by decide) (by decide) ?_
    obtain ⟨h3, h⟩ := h
    have hJ : X G Y_X12_odds d k n 72 [vA 67, vI x1, vI x2, vI 1] [vI (if x2 ≠ 7 then 94 else 98), vA 85] M1 Q := by
      refine x_callS [vA 85, vI (if x2 ≠ 7 then 94 else 98)] [] (dA D_X12_odds 39 rfl) cw_RX12_463 rfl rfl (Nat.le_of_ble_eq_true rfl) hd1 (zk k) (zk n) h (kL' (fun r8 M7 h => ?_))
      obtain ⟨hM7, h⟩ := h
      refine x_l2i (dA D_X12_odds 40 rfl) ?_
      exact x_ireturn (dA D_X12_odds 41 rfl) rfl h
    refine x_icmp_neP (tgt := 70) (dA D_X12_odds 35 rfl) (by decide) h3 ⟨by decide, by decide⟩ ⟨fun c2 => ?_, fun c2 => ?_⟩
    · refine x_bipush (dA D_X12_odds 38 rfl) (by decide) (by decide) ?_
      rw [if_pos c2] at hJ
      exact hJ
    · refine x_bipush (dA D_X12_odds 36 rfl) (by decide) (by decide) ?_
      refine x_goto (tgt := 72) (dA D_X12_odds 37 rfl) (by decide) ?_
      rw [if_neg (by first | omega | grind)] at hJ
      exact hJ
  · exact absurd c (by decide)
set_option maxRecDepth 100000 in
theorem B_X12_odds_41 {G : GG} {d : Nat} {k n : Nat} {x1 x2 : Int} {M : MM} {Q : PV → MM → Prop} (hd : 1 ≤ d) (hS : Sh M) (h : Q (vI (-1)) M) : X G Y_X12_odds d k n 41 [vA 67, vI x1, vI x2, vU] [] M Q := by
  have hd1 : 1 ≤ d := by omega
  refine x_iconst (dA D_X12_odds 21 rfl) ?_
  refine x_istore_n (xs' := [vA 67, vI x1, vI x2, vI 0]) (dA D_X12_odds 22 rfl) (by decide) rfl ?_
  refine x_iload_n (dA D_X12_odds 23 rfl) rfl ?_
  refine x_if_neP (tgt := 49) (dA D_X12_odds 24 rfl) (by decide) ⟨by decide, by decide⟩ ⟨fun c => ?_, fun c => ?_⟩
  · exact absurd c (by decide)
  · skip
    refine x_iconst (dA D_X12_odds 25 rfl) ?_
    exact x_ireturn (dA D_X12_odds 26 rfl) rfl h
set_option maxRecDepth 100000 in
theorem B_X12_stayed_0 {G : GG} {d : Nat} {k n : Nat} {x1 x2 : Int} {M : MM} {Q : PV → MM → Prop} (hd : 3 ≤ d) (hS : Sh M) (h : ∀ M1, M1 = wr M 67 0 0 → Sh M1 → inR x2 ∧ ((((0 : Int) ≤ x2) ∧ (x2 ≤ (10 : Int)) → inR x1 ∧ inR (rd M1 69 0) ∧ inL ((rd M1 69 0) - 1) ∧ ((((0 : Int) ≤ x1) ∧ (x1 ≤ ((rd M1 69 0) - 1)) → ∀ v6, v6 = rd M1 69 4 → inR (rd M1 69 5) ∧ (((rd M1 69 5) = (-1) → X G Y_X12_stayed d k n 101 [vA 67, vI x1, vI x2, vI v6, vI 0, vI 0] [] M1 Q) ∧ ((rd M1 69 5) ≠ (-1) → inR v6 ∧ ((v6 ≠ 0 → 0 ≤ (55 + (if v6 ≠ 0 then (v6 - 1) else 0)) ∧ (55 + (if v6 ≠ 0 then (v6 - 1) else 0)) < 5460 ∧ inR (rd M1 69 (55 + (if v6 ≠ 0 then (v6 - 1) else 0))) ∧ ∀ v22, v22 = (if x2 ≤ (rd M1 69 (55 + (if v6 ≠ 0 then (v6 - 1) else 0))) then 1 else 0) → X G Y_X12_stayed d k n 101 [vA 67, vI x1, vI x2, vI v6, vI v22, vI 0] [] M1 Q) ∧ (v6 = 0 → ∀ v27, v27 = (if x2 ≤ (rd M1 69 5) then 1 else 0) → X G Y_X12_stayed d k n 101 [vA 67, vI x1, vI x2, vI v6, vI v27, vI 0] [] M1 Q))))) ∧ (¬ (((0 : Int) ≤ x1) ∧ (x1 ≤ ((rd M1 69 0) - 1))) → ∀ M28, M28 = telM M1 (-2 : Int) → Sh M28 → Q (vI (-2 : Int)) M28))) ∧ (¬ (((0 : Int) ≤ x2) ∧ (x2 ≤ (10 : Int))) → ∀ M29, M29 = telM M1 (-1 : Int) → Sh M29 → Q (vI (-1 : Int)) M29))) : X G Y_X12_stayed d k n 0 [vA 67, vI x1, vI x2, vU, vU, vU] [] M Q := by
  have hd1 : 1 ≤ d := by omega
  refine x_aload_n (dA D_X12_stayed 0 rfl) rfl ?_
  refine x_iconst (dA D_X12_stayed 1 rfl) ?_
  refine x_put (x := 0) (dA D_X12_stayed 2 rfl) fw_RX12_115 (fun _ _ hc => by cases hc; exact Or.inl rfl) (sO_67 hS) rfl rfl rfl ?_
  refine x_nmM (fun M1 eM1 => ?_)
  have hM1 : Sh M1 := eM1 ▸ (sW_67_0 hS)
  have h := h M1 eM1 hM1
  refine x_iload_n (dA D_X12_stayed 3 rfl) rfl ?_
  obtain ⟨h2, h⟩ := h
  refine x_i2l (dA D_X12_stayed 4 rfl) h2 ?_
  refine x_lconst (a := 0) (dA D_X12_stayed 5 rfl) (by decide) ?_
  refine x_ldc2 (a := 10) (dA D_X12_stayed 6 rfl) kl_RX12_212 (by decide) ?_
  refine x_callS [vL x2, vL 0, vL 10] [] (dA D_X12_stayed 7 rfl) cw_RX12_125 rfl rfl (Nat.le_of_ble_eq_true rfl) hd1 (zk k) (zk n) (S_X12_in (inR_L h2) ⟨by decide, by decide⟩ ⟨by decide, by decide⟩ (by omega) ?_) (kI (fun _ _ h => h))
  show X G Y_X12_stayed d k n 14 [vA 67, vI x1, vI x2, vU, vU, vU] [vI (if ((0 : Int) ≤ x2) ∧ (x2 ≤ (10 : Int)) then 1 else 0)] M1 Q
  refine x_if_neB (tgt := 23) (dA D_X12_stayed 8 rfl) (by decide) ⟨fun c => ?_, fun c => ?_⟩
  · have h := h.1 c
    refine x_aload_n (dA D_X12_stayed 13 rfl) rfl ?_
    refine x_iload_n (dA D_X12_stayed 14 rfl) rfl ?_
    obtain ⟨h3, h⟩ := h
    obtain ⟨h4, h⟩ := h
    obtain ⟨h5, h⟩ := h
    refine x_callV 11 [vI x1] [] (dA D_X12_stayed 15 rfl) cw_RX12_150 rfl rfl (Nat.le_of_ble_eq_true rfl) (by decide) rfl hd1 (zk k) (zk n) (sO_67 hM1) (S_X12_isScene hM1 h3 h4 h5 (by omega) ?_) (kI (fun _ _ h => h))
    show X G Y_X12_stayed d k n 28 [vA 67, vI x1, vI x2, vU, vU, vU] [vI (if ((0 : Int) ≤ x1) ∧ (x1 ≤ ((rd M1 69 0) - 1)) then 1 else 0)] M1 Q
    refine x_if_neB (tgt := 38) (dA D_X12_stayed 16 rfl) (by decide) ⟨fun c => ?_, fun c => ?_⟩
    · have h := h.1 c
      refine x_aload_n (dA D_X12_stayed 21 rfl) rfl ?_
      refine x_get (v := vA 69) (dA D_X12_stayed 22 rfl) fw_RX12_13 (sO_67 hM1) (congrArg (rfV G) (sR_67_3 hM1)) ?_
      refine x_iconst (dA D_X12_stayed 23 rfl) ?_
      refine x_iald (dA D_X12_stayed 24 rfl) (sA_69 hM1 (by decide) (by decide)) ?_
      refine x_nmI (fun v6 ev6 => ?_)
      have h := h v6 ev6
      refine x_istore_n (xs' := [vA 67, vI x1, vI x2, vI v6, vU, vU]) (dA D_X12_stayed 25 rfl) (by decide) rfl ?_
      refine x_aload_n (dA D_X12_stayed 26 rfl) rfl ?_
      refine x_get (v := vA 69) (dA D_X12_stayed 27 rfl) fw_RX12_13 (sO_67 hM1) (congrArg (rfV G) (sR_67_3 hM1)) ?_
      refine x_iconst (dA D_X12_stayed 28 rfl) ?_
      refine x_iald (dA D_X12_stayed 29 rfl) (sA_69 hM1 (by decide) (by decide)) ?_
      refine x_iconst (dA D_X12_stayed 30 rfl) ?_
      obtain ⟨h7, h⟩ := h
      refine x_icmp_eqP (tgt := 95) (dA D_X12_stayed 31 rfl) (by decide) h7 ⟨by decide, by decide⟩ ⟨fun c => ?_, fun c => ?_⟩
      · have h := h.1 c
        refine x_iconst (dA D_X12_stayed 55 rfl) ?_
        refine x_istore (xs' := [vA 67, vI x1, vI x2, vI v6, vI 0, vU]) (dA D_X12_stayed 56 rfl) (by decide) rfl ?_
        refine x_iconst (dA D_X12_stayed 57 rfl) ?_
        refine x_istore (xs' := [vA 67, vI x1, vI x2, vI v6, vI 0, vI 0]) (dA D_X12_stayed 58 rfl) (by decide) rfl ?_
        exact h
      · have h := h.2 c
        refine x_iload_n (dA D_X12_stayed 32 rfl) rfl ?_
        refine x_iload_n (dA D_X12_stayed 33 rfl) rfl ?_
        obtain ⟨h8, h⟩ := h
        refine x_if_neP (tgt := 69) (dA D_X12_stayed 34 rfl) (by decide) h8 ⟨fun c => ?_, fun c => ?_⟩
        · have h := h.1 c
          refine x_aload_n (dA D_X12_stayed 40 rfl) rfl ?_
          refine x_get (v := vA 69) (dA D_X12_stayed 41 rfl) fw_RX12_13 (sO_67 hM1) (congrArg (rfV G) (sR_67_3 hM1)) ?_
          refine x_bipush (dA D_X12_stayed 42 rfl) (by decide) (by decide) ?_
          refine x_iload_n (dA D_X12_stayed 43 rfl) rfl ?_
          have hJ : X G Y_X12_stayed d k n 86 [vA 67, vI x1, vI x2, vI v6, vU, vU] [vI (if v6 ≠ 0 then (v6 - 1) else 0), vI 55, vA 69, vI x2] M1 Q := by
            refine x_iadd (dA D_X12_stayed 50 rfl) ?_
            obtain ⟨h15, h⟩ := h
            obtain ⟨h16, h⟩ := h
            refine x_iald (dA D_X12_stayed 51 rfl) (sA_69 hM1 h15 h16) ?_
            obtain ⟨h18, h⟩ := h
            have hJ : X G Y_X12_stayed d k n 96 [vA 67, vI x1, vI x2, vI v6, vU, vU] [vI (if x2 ≤ (rd M1 69 (55 + (if v6 ≠ 0 then (v6 - 1) else 0))) then 1 else 0)] M1 Q := by
              refine x_nmI (fun v22 ev22 => ?_)
              have h := h v22 ev22
              refine x_istore (xs' := [vA 67, vI x1, vI x2, vI v6, vI v22, vU]) (dA D_X12_stayed 56 rfl) (by decide) rfl ?_
              refine x_iconst (dA D_X12_stayed 57 rfl) ?_
              refine x_istore (xs' := [vA 67, vI x1, vI x2, vI v6, vI v22, vI 0]) (dA D_X12_stayed 58 rfl) (by decide) rfl ?_
              exact h
            refine x_icmp_gtP (tgt := 95) (dA D_X12_stayed 52 rfl) (by decide) h2 h18 ⟨fun c17 => ?_, fun c17 => ?_⟩
            · refine x_iconst (dA D_X12_stayed 55 rfl) ?_
              have e0 : (if x2 ≤ (rd M1 69 (55 + (if v6 ≠ 0 then (v6 - 1) else 0))) then (1 : Int) else 0) = 0 := if_neg (by first | omega | grind)
              rw [e0] at hJ
              exact hJ
            · refine x_iconst (dA D_X12_stayed 53 rfl) ?_
              refine x_goto (tgt := 96) (dA D_X12_stayed 54 rfl) (by decide) ?_
              have e0 : (if x2 ≤ (rd M1 69 (55 + (if v6 ≠ 0 then (v6 - 1) else 0))) then (1 : Int) else 0) = 1 := if_pos (by first | omega | grind)
              rw [e0] at hJ
              exact hJ
          refine x_if_neP (tgt := 83) (dA D_X12_stayed 44 rfl) (by decide) h8 ⟨fun c9 => ?_, fun c9 => ?_⟩
          · refine x_iload_n (dA D_X12_stayed 47 rfl) rfl ?_
            refine x_iconst (dA D_X12_stayed 48 rfl) ?_
            refine x_isub (dA D_X12_stayed 49 rfl) ?_
            rw [if_pos c9] at hJ
            exact hJ
          · refine x_iconst (dA D_X12_stayed 45 rfl) ?_
            refine x_goto (tgt := 86) (dA D_X12_stayed 46 rfl) (by decide) ?_
            rw [if_neg (by first | omega | grind)] at hJ
            exact hJ
        · have h := h.2 c
          refine x_aload_n (dA D_X12_stayed 35 rfl) rfl ?_
          refine x_get (v := vA 69) (dA D_X12_stayed 36 rfl) fw_RX12_13 (sO_67 hM1) (congrArg (rfV G) (sR_67_3 hM1)) ?_
          refine x_iconst (dA D_X12_stayed 37 rfl) ?_
          refine x_iald (dA D_X12_stayed 38 rfl) (sA_69 hM1 (by decide) (by decide)) ?_
          refine x_goto (tgt := 88) (dA D_X12_stayed 39 rfl) (by decide) ?_
          have hJ : X G Y_X12_stayed d k n 96 [vA 67, vI x1, vI x2, vI v6, vU, vU] [vI (if x2 ≤ (rd M1 69 5) then 1 else 0)] M1 Q := by
            refine x_nmI (fun v27 ev27 => ?_)
            have h := h v27 ev27
            refine x_istore (xs' := [vA 67, vI x1, vI x2, vI v6, vI v27, vU]) (dA D_X12_stayed 56 rfl) (by decide) rfl ?_
            refine x_iconst (dA D_X12_stayed 57 rfl) ?_
            refine x_istore (xs' := [vA 67, vI x1, vI x2, vI v6, vI v27, vI 0]) (dA D_X12_stayed 58 rfl) (by decide) rfl ?_
            exact h
          refine x_icmp_gtP (tgt := 95) (dA D_X12_stayed 52 rfl) (by decide) h2 h7 ⟨fun c23 => ?_, fun c23 => ?_⟩
          · refine x_iconst (dA D_X12_stayed 55 rfl) ?_
            have e0 : (if x2 ≤ (rd M1 69 5) then (1 : Int) else 0) = 0 := if_neg (by first | omega | grind)
            rw [e0] at hJ
            exact hJ
          · refine x_iconst (dA D_X12_stayed 53 rfl) ?_
            refine x_goto (tgt := 96) (dA D_X12_stayed 54 rfl) (by decide) ?_
            have e0 : (if x2 ≤ (rd M1 69 5) then (1 : Int) else 0) = 1 := if_pos (by first | omega | grind)
            rw [e0] at hJ
            exact hJ
    · have h := h.2 c
      refine x_aload_n (dA D_X12_stayed 17 rfl) rfl ?_
      refine x_bipush (dA D_X12_stayed 18 rfl) (by decide) (by decide) ?_
      refine x_callV 11 [vI (-2)] [] (dA D_X12_stayed 19 rfl) cw_RX12_129 rfl rfl (Nat.le_of_ble_eq_true rfl) (by decide) rfl hd1 (zk k) (zk n) (sO_67 hM1) (S_X12_tell hM1 ⟨by decide, by decide, by decide⟩ (by omega) ?_) (kI (fun _ _ h => h))
      refine x_nmM (fun M28 eM28 => ?_)
      have hM28 : Sh M28 := eM28 ▸ (sTel hM1)
      have h := h M28 eM28 hM28
      show X G Y_X12_stayed d k n 37 [vA 67, vI x1, vI x2, vU, vU, vU] [vI (-2 : Int)] M28 Q
      exact x_ireturn (dA D_X12_stayed 20 rfl) rfl h
  · have h := h.2 c
    refine x_aload_n (dA D_X12_stayed 9 rfl) rfl ?_
    refine x_iconst (dA D_X12_stayed 10 rfl) ?_
    refine x_callV 11 [vI (-1)] [] (dA D_X12_stayed 11 rfl) cw_RX12_129 rfl rfl (Nat.le_of_ble_eq_true rfl) (by decide) rfl hd1 (zk k) (zk n) (sO_67 hM1) (S_X12_tell hM1 ⟨by decide, by decide, by decide⟩ (by omega) ?_) (kI (fun _ _ h => h))
    refine x_nmM (fun M29 eM29 => ?_)
    have hM29 : Sh M29 := eM29 ▸ (sTel hM1)
    have h := h M29 eM29 hM29
    show X G Y_X12_stayed d k n 22 [vA 67, vI x1, vI x2, vU, vU, vU] [vI (-1 : Int)] M29 Q
    exact x_ireturn (dA D_X12_stayed 12 rfl) rfl h
theorem C_X12_stayed {G : GG} {d : Nat} {x1 x2 : Int} {M : MM} {Q : PV → MM → Prop} (h : X G Y_X12_stayed d 0 0 0 [vA 67, vI x1, vI x2, vU, vU, vU] [] M Q) : C G Y_X12_stayed d 0 0 [vA 67, vI x1, vI x2] M Q := X.entry (by decide) (Nat.le_of_ble_eq_true rfl) rfl rfl rfl h
set_option maxRecDepth 100000 in
theorem B_X12_stayed_101 {G : GG} {d : Nat} {k n : Nat} {x1 x2 x3 x4 x5 : Int} {M : MM} {Q : PV → MM → Prop} (hd : 2 ≤ d) (hS : Sh M) (h : inR x5 ∧ inR x3 ∧ ((x3 ≤ x5 → inR x4 ∧ ((x4 ≠ 0 → 0 ≤ (50 + x3) ∧ (50 + x3) < 5460 ∧ ∀ M6, M6 = wr M 69 (50 + x3) x1 → Sh M6 → 0 ≤ (55 + x3) ∧ (55 + x3) < 5460 ∧ ∀ M9, M9 = wr M6 69 (55 + x3) x2 → Sh M9 → ∀ M10, M10 = wr M9 69 4 ((rd M9 69 4) + 1) → Sh M10 → (-7 < (x3 + 1) ∧ inR (x3 + 1)) ∧ ∀ M12, M12 = telM M10 (x3 + 1) → Sh M12 → Q (vI (x3 + 1)) M12) ∧ (x4 = 0 → ∀ M13, M13 = telM M (-3 : Int) → Sh M13 → Q (vI (-3 : Int)) M13))) ∧ (x5 < x3 → inR x4 ∧ ((x4 = 0 → X G Y_X12_stayed d k n 101 [vA 67, vI x1, vI x2, vI x3, vI 0, vI (x5 + 1)] [] M Q) ∧ (x4 ≠ 0 → 0 ≤ (50 + x5) ∧ (50 + x5) < 5460 ∧ inR (rd M 69 (50 + x5)) ∧ inR x1 ∧ ∀ v23, v23 = (if (rd M 69 (50 + x5)) ≠ x1 then 1 else 0) → X G Y_X12_stayed d k n 101 [vA 67, vI x1, vI x2, vI x3, vI v23, vI (x5 + 1)] [] M Q))))) : X G Y_X12_stayed d k n 101 [vA 67, vI x1, vI x2, vI x3, vI x4, vI x5] [] M Q := by
  have hd1 : 1 ≤ d := by omega
  refine x_iload (dA D_X12_stayed 59 rfl) rfl ?_
  refine x_iload_n (dA D_X12_stayed 60 rfl) rfl ?_
  obtain ⟨h1, h⟩ := h
  obtain ⟨h2, h⟩ := h
  refine x_icmp_geP (tgt := 139) (dA D_X12_stayed 61 rfl) (by decide) h1 h2 ⟨fun c => ?_, fun c => ?_⟩
  · have h := h.1 c
    refine x_iload (dA D_X12_stayed 78 rfl) rfl ?_
    obtain ⟨h3, h⟩ := h
    refine x_if_neP (tgt := 151) (dA D_X12_stayed 79 rfl) (by decide) h3 ⟨fun c => ?_, fun c => ?_⟩
    · have h := h.1 c
      refine x_aload_n (dA D_X12_stayed 84 rfl) rfl ?_
      refine x_get (v := vA 69) (dA D_X12_stayed 85 rfl) fw_RX12_13 (sO_67 hS) (congrArg (rfV G) (sR_67_3 hS)) ?_
      refine x_bipush (dA D_X12_stayed 86 rfl) (by decide) (by decide) ?_
      refine x_iload_n (dA D_X12_stayed 87 rfl) rfl ?_
      refine x_iadd (dA D_X12_stayed 88 rfl) ?_
      refine x_iload_n (dA D_X12_stayed 89 rfl) rfl ?_
      obtain ⟨h4, h⟩ := h
      obtain ⟨h5, h⟩ := h
      refine x_iast (dA D_X12_stayed 90 rfl) (sA_69 hS h4 h5) ?_
      refine x_nmM (fun M6 eM6 => ?_)
      have hM6 : Sh M6 := eM6 ▸ (sW_69 hS)
      have h := h M6 eM6 hM6
      refine x_aload_n (dA D_X12_stayed 91 rfl) rfl ?_
      refine x_get (v := vA 69) (dA D_X12_stayed 92 rfl) fw_RX12_13 (sO_67 hM6) (congrArg (rfV G) (sR_67_3 hM6)) ?_
      refine x_bipush (dA D_X12_stayed 93 rfl) (by decide) (by decide) ?_
      refine x_iload_n (dA D_X12_stayed 94 rfl) rfl ?_
      refine x_iadd (dA D_X12_stayed 95 rfl) ?_
      refine x_iload_n (dA D_X12_stayed 96 rfl) rfl ?_
      obtain ⟨h7, h⟩ := h
      obtain ⟨h8, h⟩ := h
      refine x_iast (dA D_X12_stayed 97 rfl) (sA_69 hM6 h7 h8) ?_
      refine x_nmM (fun M9 eM9 => ?_)
      have hM9 : Sh M9 := eM9 ▸ (sW_69 hM6)
      have h := h M9 eM9 hM9
      refine x_aload_n (dA D_X12_stayed 98 rfl) rfl ?_
      refine x_get (v := vA 69) (dA D_X12_stayed 99 rfl) fw_RX12_13 (sO_67 hM9) (congrArg (rfV G) (sR_67_3 hM9)) ?_
      refine x_iconst (dA D_X12_stayed 100 rfl) ?_
      refine x_dup2 (dA D_X12_stayed 101 rfl) rfl rfl ?_
      refine x_iald (dA D_X12_stayed 102 rfl) (sA_69 hM9 (by decide) (by decide)) ?_
      refine x_iconst (dA D_X12_stayed 103 rfl) ?_
      refine x_iadd (dA D_X12_stayed 104 rfl) ?_
      refine x_iast (dA D_X12_stayed 105 rfl) (sA_69 hM9 (by decide) (by decide)) ?_
      refine x_nmM (fun M10 eM10 => ?_)
      have hM10 : Sh M10 := eM10 ▸ (sW_69 hM9)
      have h := h M10 eM10 hM10
      refine x_aload_n (dA D_X12_stayed 106 rfl) rfl ?_
      refine x_iload_n (dA D_X12_stayed 107 rfl) rfl ?_
      refine x_iconst (dA D_X12_stayed 108 rfl) ?_
      refine x_iadd (dA D_X12_stayed 109 rfl) ?_
      obtain ⟨h11, h⟩ := h
      refine x_callV 11 [vI (x3 + 1)] [] (dA D_X12_stayed 110 rfl) cw_RX12_129 rfl rfl (Nat.le_of_ble_eq_true rfl) (by decide) rfl hd1 (zk k) (zk n) (sO_67 hM10) (S_X12_tell hM10 h11 (by omega) ?_) (kI (fun _ _ h => h))
      refine x_nmM (fun M12 eM12 => ?_)
      have hM12 : Sh M12 := eM12 ▸ (sTel hM10)
      have h := h M12 eM12 hM12
      show X G Y_X12_stayed d k n 188 [vA 67, vI x1, vI x2, vI x3, vI x4, vI x5] [vI (x3 + 1)] M12 Q
      exact x_ireturn (dA D_X12_stayed 111 rfl) rfl h
    · have h := h.2 c
      refine x_aload_n (dA D_X12_stayed 80 rfl) rfl ?_
      refine x_bipush (dA D_X12_stayed 81 rfl) (by decide) (by decide) ?_
      refine x_callV 11 [vI (-3)] [] (dA D_X12_stayed 82 rfl) cw_RX12_129 rfl rfl (Nat.le_of_ble_eq_true rfl) (by decide) rfl hd1 (zk k) (zk n) (sO_67 hS) (S_X12_tell hS ⟨by decide, by decide, by decide⟩ (by omega) ?_) (kI (fun _ _ h => h))
      refine x_nmM (fun M13 eM13 => ?_)
      have hM13 : Sh M13 := eM13 ▸ (sTel hS)
      have h := h M13 eM13 hM13
      show X G Y_X12_stayed d k n 150 [vA 67, vI x1, vI x2, vI x3, vI x4, vI x5] [vI (-3 : Int)] M13 Q
      exact x_ireturn (dA D_X12_stayed 83 rfl) rfl h
  · have h := h.2 c
    refine x_iload (dA D_X12_stayed 62 rfl) rfl ?_
    obtain ⟨h14, h⟩ := h
    refine x_if_eqP (tgt := 130) (dA D_X12_stayed 63 rfl) (by decide) h14 ⟨fun c => ?_, fun c => ?_⟩
    · have h := h.1 c
      refine x_iconst (dA D_X12_stayed 74 rfl) ?_
      refine x_istore (xs' := [vA 67, vI x1, vI x2, vI x3, vI 0, vI x5]) (dA D_X12_stayed 75 rfl) (by decide) rfl ?_
      refine x_iinc (xs' := [vA 67, vI x1, vI x2, vI x3, vI 0, vI (x5 + 1)]) (dA D_X12_stayed 76 rfl) rfl (by decide) rfl ?_
      refine x_goto (tgt := 101) (dA D_X12_stayed 77 rfl) (by decide) ?_
      exact h
    · have h := h.2 c
      refine x_aload_n (dA D_X12_stayed 64 rfl) rfl ?_
      refine x_get (v := vA 69) (dA D_X12_stayed 65 rfl) fw_RX12_13 (sO_67 hS) (congrArg (rfV G) (sR_67_3 hS)) ?_
      refine x_bipush (dA D_X12_stayed 66 rfl) (by decide) (by decide) ?_
      refine x_iload (dA D_X12_stayed 67 rfl) rfl ?_
      refine x_iadd (dA D_X12_stayed 68 rfl) ?_
      obtain ⟨h15, h⟩ := h
      obtain ⟨h16, h⟩ := h
      refine x_iald (dA D_X12_stayed 69 rfl) (sA_69 hS h15 h16) ?_
      refine x_iload_n (dA D_X12_stayed 70 rfl) rfl ?_
      obtain ⟨h18, h⟩ := h
      obtain ⟨h19, h⟩ := h
      have hJ : X G Y_X12_stayed d k n 131 [vA 67, vI x1, vI x2, vI x3, vI x4, vI x5] [vI (if (rd M 69 (50 + x5)) ≠ x1 then 1 else 0)] M Q := by
        refine x_nmI (fun v23 ev23 => ?_)
        have h := h v23 ev23
        refine x_istore (xs' := [vA 67, vI x1, vI x2, vI x3, vI v23, vI x5]) (dA D_X12_stayed 75 rfl) (by decide) rfl ?_
        refine x_iinc (xs' := [vA 67, vI x1, vI x2, vI x3, vI v23, vI (x5 + 1)]) (dA D_X12_stayed 76 rfl) rfl (by decide) rfl ?_
        refine x_goto (tgt := 101) (dA D_X12_stayed 77 rfl) (by decide) ?_
        exact h
      refine x_icmp_eqP (tgt := 130) (dA D_X12_stayed 71 rfl) (by decide) h18 h19 ⟨fun c17 => ?_, fun c17 => ?_⟩
      · refine x_iconst (dA D_X12_stayed 74 rfl) ?_
        have e0 : (if (rd M 69 (50 + x5)) ≠ x1 then (1 : Int) else 0) = 0 := if_neg (by first | omega | grind)
        rw [e0] at hJ
        exact hJ
      · refine x_iconst (dA D_X12_stayed 72 rfl) ?_
        refine x_goto (tgt := 131) (dA D_X12_stayed 73 rfl) (by decide) ?_
        have e0 : (if (rd M 69 (50 + x5)) ≠ x1 then (1 : Int) else 0) = 1 := if_pos (by first | omega | grind)
        rw [e0] at hJ
        exact hJ
set_option maxRecDepth 100000 in
theorem B_X12_run_0 {G : GG} {d : Nat} {k n : Nat} {x1 x2 : Int} {M : MM} {Q : PV → MM → Prop} (hd : 3 ≤ d) (hS : Sh M) (h : ∀ M1, M1 = wr M 67 0 0 → Sh M1 → inR x1 ∧ ((¬ (((0 : Int) ≤ x1) ∧ (x1 ≤ (3 : Int))) → ∀ M3, M3 = telM M1 (-1 : Int) → Sh M3 → Q (vI (-1 : Int)) M3) ∧ (((0 : Int) ≤ x1) ∧ (x1 ≤ (3 : Int)) → inR x2 ∧ ((((0 : Int) ≤ x2) ∧ (x2 ≤ (1000000 : Int)) → C G Y_X12_choose (d - 1) 0 0 [vA 67, vI x1] M1 (rU (fun M5 => Sh M5 ∧ ∀ M6, M6 = wr M5 67 47 x2 → Sh M6 → C G Y_X12_goThrough (d - 1) 0 0 [vA 67, vI x1, vI (rd M6 69 30), vI (rd M6 69 33)] M6 (rU (fun M7 => Sh M7 ∧ ∀ M8, M8 = wr M7 67 52 (rd M7 67 48) → Sh M8 → X G Y_X12_run d k n 65 [vA 67, vI x1, vI x2, vI 0] [] M8 Q))))) ∧ (¬ (((0 : Int) ≤ x2) ∧ (x2 ≤ (1000000 : Int))) → ∀ M9, M9 = telM M1 (-1 : Int) → Sh M9 → Q (vI (-1 : Int)) M9))))) : X G Y_X12_run d k n 0 [vA 67, vI x1, vI x2, vU] [] M Q := by
  have hd1 : 1 ≤ d := by omega
  refine x_aload_n (dA D_X12_run 0 rfl) rfl ?_
  refine x_iconst (dA D_X12_run 1 rfl) ?_
  refine x_put (x := 0) (dA D_X12_run 2 rfl) fw_RX12_115 (fun _ _ hc => by cases hc; exact Or.inl rfl) (sO_67 hS) rfl rfl rfl ?_
  refine x_nmM (fun M1 eM1 => ?_)
  have hM1 : Sh M1 := eM1 ▸ (sW_67_0 hS)
  have h := h M1 eM1 hM1
  refine x_iload_n (dA D_X12_run 3 rfl) rfl ?_
  obtain ⟨h2, h⟩ := h
  refine x_callS [vI x1] [] (dA D_X12_run 4 rfl) cw_RX12_457 rfl rfl (Nat.le_of_ble_eq_true rfl) hd1 (zk k) (zk n) (S_X12_isChooser h2 (by omega) ?_) (kI (fun _ _ h => h))
  show X G Y_X12_run d k n 9 [vA 67, vI x1, vI x2, vU] [vI (if ((0 : Int) ≤ x1) ∧ (x1 ≤ (3 : Int)) then 1 else 0)] M1 Q
  refine x_if_eqB (tgt := 19) (dA D_X12_run 5 rfl) (by decide) ⟨fun c => ?_, fun c => ?_⟩
  · have h := h.1 c
    refine x_aload_n (dA D_X12_run 9 rfl) rfl ?_
    refine x_iconst (dA D_X12_run 10 rfl) ?_
    refine x_callV 11 [vI (-1)] [] (dA D_X12_run 11 rfl) cw_RX12_129 rfl rfl (Nat.le_of_ble_eq_true rfl) (by decide) rfl hd1 (zk k) (zk n) (sO_67 hM1) (S_X12_tell hM1 ⟨by decide, by decide, by decide⟩ (by omega) ?_) (kI (fun _ _ h => h))
    refine x_nmM (fun M3 eM3 => ?_)
    have hM3 : Sh M3 := eM3 ▸ (sTel hM1)
    have h := h M3 eM3 hM3
    show X G Y_X12_run d k n 24 [vA 67, vI x1, vI x2, vU] [vI (-1 : Int)] M3 Q
    exact x_ireturn (dA D_X12_run 12 rfl) rfl h
  · have h := h.2 c
    refine x_iload_n (dA D_X12_run 6 rfl) rfl ?_
    obtain ⟨h4, h⟩ := h
    refine x_callS [vI x2] [] (dA D_X12_run 7 rfl) cw_RX12_518 rfl rfl (Nat.le_of_ble_eq_true rfl) hd1 (zk k) (zk n) (S_X12_isSeed h4 (by omega) ?_) (kI (fun _ _ h => h))
    show X G Y_X12_run d k n 16 [vA 67, vI x1, vI x2, vU] [vI (if ((0 : Int) ≤ x2) ∧ (x2 ≤ (1000000 : Int)) then 1 else 0)] M1 Q
    refine x_if_neB (tgt := 25) (dA D_X12_run 8 rfl) (by decide) ⟨fun c => ?_, fun c => ?_⟩
    · have h := h.1 c
      refine x_aload_n (dA D_X12_run 13 rfl) rfl ?_
      refine x_iload_n (dA D_X12_run 14 rfl) rfl ?_
      refine x_callV 11 [vI x1] [] (dA D_X12_run 15 rfl) cw_RX12_454 rfl rfl (Nat.le_of_ble_eq_true rfl) (by decide) rfl hd1 (zk k) (zk n) (sO_67 hM1) h (kU (fun M5 h => ?_))
      obtain ⟨hM5, h⟩ := h
      refine x_aload_n (dA D_X12_run 16 rfl) rfl ?_
      refine x_iload_n (dA D_X12_run 17 rfl) rfl ?_
      refine x_i2l (dA D_X12_run 18 rfl) h4 ?_
      refine x_put (x := x2) (dA D_X12_run 19 rfl) fw_RX12_490 (fun _ _ hc => by cases hc; exact Or.inl rfl) (sO_67 hM5) rfl rfl rfl ?_
      refine x_nmM (fun M6 eM6 => ?_)
      have hM6 : Sh M6 := eM6 ▸ (sW_67_47 hM5)
      have h := h M6 eM6 hM6
      refine x_aload_n (dA D_X12_run 20 rfl) rfl ?_
      refine x_iload_n (dA D_X12_run 21 rfl) rfl ?_
      refine x_aload_n (dA D_X12_run 22 rfl) rfl ?_
      refine x_get (v := vA 69) (dA D_X12_run 23 rfl) fw_RX12_13 (sO_67 hM6) (congrArg (rfV G) (sR_67_3 hM6)) ?_
      refine x_bipush (dA D_X12_run 24 rfl) (by decide) (by decide) ?_
      refine x_iald (dA D_X12_run 25 rfl) (sA_69 hM6 (by decide) (by decide)) ?_
      refine x_aload_n (dA D_X12_run 26 rfl) rfl ?_
      refine x_get (v := vA 69) (dA D_X12_run 27 rfl) fw_RX12_13 (sO_67 hM6) (congrArg (rfV G) (sR_67_3 hM6)) ?_
      refine x_bipush (dA D_X12_run 28 rfl) (by decide) (by decide) ?_
      refine x_iald (dA D_X12_run 29 rfl) (sA_69 hM6 (by decide) (by decide)) ?_
      refine x_callV 11 [vI x1, vI (rd M6 69 30), vI (rd M6 69 33)] [] (dA D_X12_run 30 rfl) cw_RX12_521 rfl rfl (Nat.le_of_ble_eq_true rfl) (by decide) rfl hd1 (zk k) (zk n) (sO_67 hM6) h (kU (fun M7 h => ?_))
      obtain ⟨hM7, h⟩ := h
      refine x_aload_n (dA D_X12_run 31 rfl) rfl ?_
      refine x_aload_n (dA D_X12_run 32 rfl) rfl ?_
      refine x_get (v := vI (rd M7 67 48)) (dA D_X12_run 33 rfl) fw_RX12_502 (sO_67 hM7) rfl ?_
      refine x_put (x := rd M7 67 48) (dA D_X12_run 34 rfl) fw_RX12_109 (fun _ _ hc => by cases hc; exact Or.inl rfl) (sO_67 hM7) rfl rfl rfl ?_
      refine x_nmM (fun M8 eM8 => ?_)
      have hM8 : Sh M8 := eM8 ▸ (sW_67_52 hM7)
      have h := h M8 eM8 hM8
      refine x_iconst (dA D_X12_run 35 rfl) ?_
      refine x_istore_n (xs' := [vA 67, vI x1, vI x2, vI 0]) (dA D_X12_run 36 rfl) (by decide) rfl ?_
      exact h
    · have h := h.2 c
      refine x_aload_n (dA D_X12_run 9 rfl) rfl ?_
      refine x_iconst (dA D_X12_run 10 rfl) ?_
      refine x_callV 11 [vI (-1)] [] (dA D_X12_run 11 rfl) cw_RX12_129 rfl rfl (Nat.le_of_ble_eq_true rfl) (by decide) rfl hd1 (zk k) (zk n) (sO_67 hM1) (S_X12_tell hM1 ⟨by decide, by decide, by decide⟩ (by omega) ?_) (kI (fun _ _ h => h))
      refine x_nmM (fun M9 eM9 => ?_)
      have hM9 : Sh M9 := eM9 ▸ (sTel hM1)
      have h := h M9 eM9 hM9
      show X G Y_X12_run d k n 24 [vA 67, vI x1, vI x2, vU] [vI (-1 : Int)] M9 Q
      exact x_ireturn (dA D_X12_run 12 rfl) rfl h
theorem C_X12_run {G : GG} {d : Nat} {x1 x2 : Int} {M : MM} {Q : PV → MM → Prop} (h : X G Y_X12_run d 0 0 0 [vA 67, vI x1, vI x2, vU] [] M Q) : C G Y_X12_run d 0 0 [vA 67, vI x1, vI x2] M Q := X.entry (by decide) (Nat.le_of_ble_eq_true rfl) rfl rfl rfl h
set_option maxRecDepth 100000 in
theorem B_X12_run_65 {G : GG} {d : Nat} {k n : Nat} {x1 x2 x3 : Int} {M : MM} {Q : PV → MM → Prop} (hd : 2 ≤ d) (hS : Sh M) (h : inR x3 ∧ ((15 ≤ x3 → (-7 < (rd M 67 48) ∧ inR (rd M 67 48)) ∧ ∀ M3, M3 = telM M (rd M 67 48) → Sh M3 → Q (vI (rd M 67 48)) M3) ∧ (x3 < 15 → 0 ≤ x3 ∧ x3 < 15 ∧ ∀ M6, M6 = wr M 93 x3 (rd M 92 x3) → Sh M6 → X G Y_X12_run d k n 65 [vA 67, vI x1, vI x2, vI (x3 + 1)] [] M6 Q))) : X G Y_X12_run d k n 65 [vA 67, vI x1, vI x2, vI x3] [] M Q := by
  have hd1 : 1 ≤ d := by omega
  refine x_iload_n (dA D_X12_run 37 rfl) rfl ?_
  refine x_bipush (dA D_X12_run 38 rfl) (by decide) (by decide) ?_
  obtain ⟨h1, h⟩ := h
  refine x_icmp_geP (tgt := 89) (dA D_X12_run 39 rfl) (by decide) h1 ⟨by decide, by decide⟩ ⟨fun c => ?_, fun c => ?_⟩
  · have h := h.1 c
    refine x_aload_n (dA D_X12_run 50 rfl) rfl ?_
    refine x_aload_n (dA D_X12_run 51 rfl) rfl ?_
    refine x_get (v := vI (rd M 67 48)) (dA D_X12_run 52 rfl) fw_RX12_502 (sO_67 hS) rfl ?_
    obtain ⟨h2, h⟩ := h
    refine x_callV 11 [vI (rd M 67 48)] [] (dA D_X12_run 53 rfl) cw_RX12_129 rfl rfl (Nat.le_of_ble_eq_true rfl) (by decide) rfl hd1 (zk k) (zk n) (sO_67 hS) (S_X12_tell hS h2 (by omega) ?_) (kI (fun _ _ h => h))
    refine x_nmM (fun M3 eM3 => ?_)
    have hM3 : Sh M3 := eM3 ▸ (sTel hS)
    have h := h M3 eM3 hM3
    show X G Y_X12_run d k n 97 [vA 67, vI x1, vI x2, vI x3] [vI (rd M 67 48)] M3 Q
    exact x_ireturn (dA D_X12_run 54 rfl) rfl h
  · have h := h.2 c
    refine x_aload_n (dA D_X12_run 40 rfl) rfl ?_
    refine x_get (v := vA 93) (dA D_X12_run 41 rfl) fw_RX12_112 (sO_67 hS) (congrArg (rfV G) (sR_67_53 hS)) ?_
    refine x_iload_n (dA D_X12_run 42 rfl) rfl ?_
    refine x_aload_n (dA D_X12_run 43 rfl) rfl ?_
    refine x_get (v := vA 92) (dA D_X12_run 44 rfl) fw_RX12_106 (sO_67 hS) (congrArg (rfV G) (sR_67_49 hS)) ?_
    refine x_iload_n (dA D_X12_run 45 rfl) rfl ?_
    obtain ⟨h4, h⟩ := h
    obtain ⟨h5, h⟩ := h
    refine x_iald (dA D_X12_run 46 rfl) (sA_92 hS h4 h5) ?_
    refine x_iast (dA D_X12_run 47 rfl) (sA_93 hS h4 h5) ?_
    refine x_nmM (fun M6 eM6 => ?_)
    have hM6 : Sh M6 := eM6 ▸ (sW_93 hS)
    have h := h M6 eM6 hM6
    refine x_iinc (xs' := [vA 67, vI x1, vI x2, vI (x3 + 1)]) (dA D_X12_run 48 rfl) rfl (by decide) rfl ?_
    refine x_goto (tgt := 65) (dA D_X12_run 49 rfl) (by decide) ?_
    exact h
set_option maxRecDepth 100000 in
theorem B_X12_ran_0 {G : GG} {d : Nat} {k n : Nat} {x1 x2 : Int} {M : MM} {Q : PV → MM → Prop} (hd : 2 ≤ d) (hS : Sh M) (h : ∀ M1, M1 = wr M 67 0 0 → Sh M1 → inR x1 ∧ inR (rd M1 67 52) ∧ inL ((rd M1 67 52) - 1) ∧ ((¬ (((0 : Int) ≤ x1) ∧ (x1 ≤ ((rd M1 67 52) - 1))) → Q (vI (-1)) M1) ∧ (((0 : Int) ≤ x1) ∧ (x1 ≤ ((rd M1 67 52) - 1)) → inR x2 ∧ ((¬ (((0 : Int) ≤ x2) ∧ (x2 ≤ (2 : Int))) → Q (vI (-1)) M1) ∧ (((0 : Int) ≤ x2) ∧ (x2 ≤ (2 : Int)) → 0 ≤ ((3 * x1) + x2) ∧ ((3 * x1) + x2) < 15 ∧ Q (vI (rd M1 93 ((3 * x1) + x2))) M1))))) : X G Y_X12_ran d k n 0 [vA 67, vI x1, vI x2] [] M Q := by
  have hd1 : 1 ≤ d := by omega
  refine x_aload_n (dA D_X12_ran 0 rfl) rfl ?_
  refine x_iconst (dA D_X12_ran 1 rfl) ?_
  refine x_put (x := 0) (dA D_X12_ran 2 rfl) fw_RX12_115 (fun _ _ hc => by cases hc; exact Or.inl rfl) (sO_67 hS) rfl rfl rfl ?_
  refine x_nmM (fun M1 eM1 => ?_)
  have hM1 : Sh M1 := eM1 ▸ (sW_67_0 hS)
  have h := h M1 eM1 hM1
  refine x_iload_n (dA D_X12_ran 3 rfl) rfl ?_
  obtain ⟨h2, h⟩ := h
  refine x_i2l (dA D_X12_ran 4 rfl) h2 ?_
  refine x_lconst (a := 0) (dA D_X12_ran 5 rfl) (by decide) ?_
  refine x_aload_n (dA D_X12_ran 6 rfl) rfl ?_
  refine x_get (v := vI (rd M1 67 52)) (dA D_X12_ran 7 rfl) fw_RX12_109 (sO_67 hM1) rfl ?_
  obtain ⟨h3, h⟩ := h
  refine x_i2l (dA D_X12_ran 8 rfl) h3 ?_
  refine x_lconst (a := 1) (dA D_X12_ran 9 rfl) (by decide) ?_
  refine x_lsub (dA D_X12_ran 10 rfl) ?_
  obtain ⟨h4, h⟩ := h
  refine x_callS [vL x1, vL 0, vL ((rd M1 67 52) - 1)] [] (dA D_X12_ran 11 rfl) cw_RX12_125 rfl rfl (Nat.le_of_ble_eq_true rfl) hd1 (zk k) (zk n) (S_X12_in (inR_L h2) ⟨by decide, by decide⟩ h4 (by omega) ?_) (kI (fun _ _ h => h))
  show X G Y_X12_ran d k n 18 [vA 67, vI x1, vI x2] [vI (if ((0 : Int) ≤ x1) ∧ (x1 ≤ ((rd M1 67 52) - 1)) then 1 else 0)] M1 Q
  refine x_if_eqB (tgt := 46) (dA D_X12_ran 12 rfl) (by decide) ⟨fun c => ?_, fun c => ?_⟩
  · have h := h.1 c
    refine x_iconst (dA D_X12_ran 28 rfl) ?_
    exact x_ireturn (dA D_X12_ran 29 rfl) rfl h
  · have h := h.2 c
    refine x_iload_n (dA D_X12_ran 13 rfl) rfl ?_
    obtain ⟨h5, h⟩ := h
    refine x_i2l (dA D_X12_ran 14 rfl) h5 ?_
    refine x_lconst (a := 0) (dA D_X12_ran 15 rfl) (by decide) ?_
    refine x_ldc2 (a := 2) (dA D_X12_ran 16 rfl) kl_RX12_158 (by decide) ?_
    refine x_callS [vL x2, vL 0, vL 2] [] (dA D_X12_ran 17 rfl) cw_RX12_125 rfl rfl (Nat.le_of_ble_eq_true rfl) hd1 (zk k) (zk n) (S_X12_in (inR_L h5) ⟨by decide, by decide⟩ ⟨by decide, by decide⟩ (by omega) ?_) (kI (fun _ _ h => h))
    show X G Y_X12_ran d k n 30 [vA 67, vI x1, vI x2] [vI (if ((0 : Int) ≤ x2) ∧ (x2 ≤ (2 : Int)) then 1 else 0)] M1 Q
    refine x_if_eqB (tgt := 46) (dA D_X12_ran 18 rfl) (by decide) ⟨fun c => ?_, fun c => ?_⟩
    · have h := h.1 c
      refine x_iconst (dA D_X12_ran 28 rfl) ?_
      exact x_ireturn (dA D_X12_ran 29 rfl) rfl h
    · have h := h.2 c
      refine x_aload_n (dA D_X12_ran 19 rfl) rfl ?_
      refine x_get (v := vA 93) (dA D_X12_ran 20 rfl) fw_RX12_112 (sO_67 hM1) (congrArg (rfV G) (sR_67_53 hM1)) ?_
      refine x_iconst (dA D_X12_ran 21 rfl) ?_
      refine x_iload_n (dA D_X12_ran 22 rfl) rfl ?_
      refine x_imul (dA D_X12_ran 23 rfl) ?_
      refine x_iload_n (dA D_X12_ran 24 rfl) rfl ?_
      refine x_iadd (dA D_X12_ran 25 rfl) ?_
      obtain ⟨h6, h⟩ := h
      obtain ⟨h7, h⟩ := h
      refine x_iald (dA D_X12_ran 26 rfl) (sA_93 hM1 h6 h7) ?_
      refine x_goto (tgt := 47) (dA D_X12_ran 27 rfl) (by decide) ?_
      exact x_ireturn (dA D_X12_ran 29 rfl) rfl h
theorem C_X12_ran {G : GG} {d : Nat} {x1 x2 : Int} {M : MM} {Q : PV → MM → Prop} (h : X G Y_X12_ran d 0 0 0 [vA 67, vI x1, vI x2] [] M Q) : C G Y_X12_ran d 0 0 [vA 67, vI x1, vI x2] M Q := X.entry (by decide) (Nat.le_of_ble_eq_true rfl) rfl rfl rfl h
set_option maxRecDepth 100000 in
theorem B_X12_nights_0 {G : GG} {d : Nat} {k n : Nat} {x1 x2 x3 x4 : Int} {M : MM} {Q : PV → MM → Prop} (hd : 3 ≤ d) (hS : Sh M) (h : ∀ M1, M1 = wr M 67 0 0 → Sh M1 → inR x1 ∧ ((¬ (((1 : Int) ≤ x1) ∧ (x1 ≤ (60 : Int))) → Q (vI (-1)) M1) ∧ (((1 : Int) ≤ x1) ∧ (x1 ≤ (60 : Int)) → inR x2 ∧ ((¬ (((0 : Int) ≤ x2) ∧ (x2 ≤ (3 : Int))) → Q (vI (-1)) M1) ∧ (((0 : Int) ≤ x2) ∧ (x2 ≤ (3 : Int)) → inR x3 ∧ ((¬ (((0 : Int) ≤ x3) ∧ (x3 ≤ (1000000 : Int))) → Q (vI (-1)) M1) ∧ (((0 : Int) ≤ x3) ∧ (x3 ≤ (1000000 : Int)) → inR x4 ∧ ((((0 : Int) ≤ x4) ∧ (x4 ≤ (2 : Int)) → C G Y_X12_choose (d - 1) 0 0 [vA 67, vI x2] M1 (rU (fun M6 => Sh M6 ∧ ∀ M7, M7 = wr M6 67 47 x3 → Sh M7 → ∀ v8, v8 = rd M7 69 30 → ∀ v9, v9 = rd M7 69 33 → X G Y_X12_nights d k n 87 [vA 67, vI x1, vI x2, vI x3, vI x4, vI v8, vI v9, vI 0, vI 0, vI 0, vI 0, vU, vU] [] M7 Q))) ∧ (¬ (((0 : Int) ≤ x4) ∧ (x4 ≤ (2 : Int))) → Q (vI (-1)) M1))))))))) : X G Y_X12_nights d k n 0 [vA 67, vI x1, vI x2, vI x3, vI x4, vU, vU, vU, vU, vU, vU, vU, vU] [] M Q := by
  have hd1 : 1 ≤ d := by omega
  refine x_aload_n (dA D_X12_nights 0 rfl) rfl ?_
  refine x_iconst (dA D_X12_nights 1 rfl) ?_
  refine x_put (x := 0) (dA D_X12_nights 2 rfl) fw_RX12_115 (fun _ _ hc => by cases hc; exact Or.inl rfl) (sO_67 hS) rfl rfl rfl ?_
  refine x_nmM (fun M1 eM1 => ?_)
  have hM1 : Sh M1 := eM1 ▸ (sW_67_0 hS)
  have h := h M1 eM1 hM1
  refine x_iload_n (dA D_X12_nights 3 rfl) rfl ?_
  obtain ⟨h2, h⟩ := h
  refine x_i2l (dA D_X12_nights 4 rfl) h2 ?_
  refine x_lconst (a := 1) (dA D_X12_nights 5 rfl) (by decide) ?_
  refine x_ldc2 (a := 60) (dA D_X12_nights 6 rfl) kl_RX12_132 (by decide) ?_
  refine x_callS [vL x1, vL 1, vL 60] [] (dA D_X12_nights 7 rfl) cw_RX12_125 rfl rfl (Nat.le_of_ble_eq_true rfl) hd1 (zk k) (zk n) (S_X12_in (inR_L h2) ⟨by decide, by decide⟩ ⟨by decide, by decide⟩ (by omega) ?_) (kI (fun _ _ h => h))
  show X G Y_X12_nights d k n 14 [vA 67, vI x1, vI x2, vI x3, vI x4, vU, vU, vU, vU, vU, vU, vU, vU] [vI (if ((1 : Int) ≤ x1) ∧ (x1 ≤ (60 : Int)) then 1 else 0)] M1 Q
  refine x_if_eqB (tgt := 44) (dA D_X12_nights 8 rfl) (by decide) ⟨fun c => ?_, fun c => ?_⟩
  · have h := h.1 c
    refine x_iconst (dA D_X12_nights 21 rfl) ?_
    exact x_ireturn (dA D_X12_nights 22 rfl) rfl h
  · have h := h.2 c
    refine x_iload_n (dA D_X12_nights 9 rfl) rfl ?_
    obtain ⟨h3, h⟩ := h
    refine x_callS [vI x2] [] (dA D_X12_nights 10 rfl) cw_RX12_457 rfl rfl (Nat.le_of_ble_eq_true rfl) hd1 (zk k) (zk n) (S_X12_isChooser h3 (by omega) ?_) (kI (fun _ _ h => h))
    show X G Y_X12_nights d k n 21 [vA 67, vI x1, vI x2, vI x3, vI x4, vU, vU, vU, vU, vU, vU, vU, vU] [vI (if ((0 : Int) ≤ x2) ∧ (x2 ≤ (3 : Int)) then 1 else 0)] M1 Q
    refine x_if_eqB (tgt := 44) (dA D_X12_nights 11 rfl) (by decide) ⟨fun c => ?_, fun c => ?_⟩
    · have h := h.1 c
      refine x_iconst (dA D_X12_nights 21 rfl) ?_
      exact x_ireturn (dA D_X12_nights 22 rfl) rfl h
    · have h := h.2 c
      refine x_iload_n (dA D_X12_nights 12 rfl) rfl ?_
      obtain ⟨h4, h⟩ := h
      refine x_callS [vI x3] [] (dA D_X12_nights 13 rfl) cw_RX12_518 rfl rfl (Nat.le_of_ble_eq_true rfl) hd1 (zk k) (zk n) (S_X12_isSeed h4 (by omega) ?_) (kI (fun _ _ h => h))
      show X G Y_X12_nights d k n 28 [vA 67, vI x1, vI x2, vI x3, vI x4, vU, vU, vU, vU, vU, vU, vU, vU] [vI (if ((0 : Int) ≤ x3) ∧ (x3 ≤ (1000000 : Int)) then 1 else 0)] M1 Q
      refine x_if_eqB (tgt := 44) (dA D_X12_nights 14 rfl) (by decide) ⟨fun c => ?_, fun c => ?_⟩
      · have h := h.1 c
        refine x_iconst (dA D_X12_nights 21 rfl) ?_
        exact x_ireturn (dA D_X12_nights 22 rfl) rfl h
      · have h := h.2 c
        refine x_iload (dA D_X12_nights 15 rfl) rfl ?_
        obtain ⟨h5, h⟩ := h
        refine x_i2l (dA D_X12_nights 16 rfl) h5 ?_
        refine x_lconst (a := 0) (dA D_X12_nights 17 rfl) (by decide) ?_
        refine x_ldc2 (a := 2) (dA D_X12_nights 18 rfl) kl_RX12_158 (by decide) ?_
        refine x_callS [vL x4, vL 0, vL 2] [] (dA D_X12_nights 19 rfl) cw_RX12_125 rfl rfl (Nat.le_of_ble_eq_true rfl) hd1 (zk k) (zk n) (S_X12_in (inR_L h5) ⟨by decide, by decide⟩ ⟨by decide, by decide⟩ (by omega) ?_) (kI (fun _ _ h => h))
        show X G Y_X12_nights d k n 41 [vA 67, vI x1, vI x2, vI x3, vI x4, vU, vU, vU, vU, vU, vU, vU, vU] [vI (if ((0 : Int) ≤ x4) ∧ (x4 ≤ (2 : Int)) then 1 else 0)] M1 Q
        refine x_if_neB (tgt := 46) (dA D_X12_nights 20 rfl) (by decide) ⟨fun c => ?_, fun c => ?_⟩
        · have h := h.1 c
          refine x_aload_n (dA D_X12_nights 23 rfl) rfl ?_
          refine x_iload_n (dA D_X12_nights 24 rfl) rfl ?_
          refine x_callV 11 [vI x2] [] (dA D_X12_nights 25 rfl) cw_RX12_454 rfl rfl (Nat.le_of_ble_eq_true rfl) (by decide) rfl hd1 (zk k) (zk n) (sO_67 hM1) h (kU (fun M6 h => ?_))
          obtain ⟨hM6, h⟩ := h
          refine x_aload_n (dA D_X12_nights 26 rfl) rfl ?_
          refine x_iload_n (dA D_X12_nights 27 rfl) rfl ?_
          refine x_i2l (dA D_X12_nights 28 rfl) h4 ?_
          refine x_put (x := x3) (dA D_X12_nights 29 rfl) fw_RX12_490 (fun _ _ hc => by cases hc; exact Or.inl rfl) (sO_67 hM6) rfl rfl rfl ?_
          refine x_nmM (fun M7 eM7 => ?_)
          have hM7 : Sh M7 := eM7 ▸ (sW_67_47 hM6)
          have h := h M7 eM7 hM7
          refine x_aload_n (dA D_X12_nights 30 rfl) rfl ?_
          refine x_get (v := vA 69) (dA D_X12_nights 31 rfl) fw_RX12_13 (sO_67 hM7) (congrArg (rfV G) (sR_67_3 hM7)) ?_
          refine x_bipush (dA D_X12_nights 32 rfl) (by decide) (by decide) ?_
          refine x_iald (dA D_X12_nights 33 rfl) (sA_69 hM7 (by decide) (by decide)) ?_
          refine x_nmI (fun v8 ev8 => ?_)
          have h := h v8 ev8
          refine x_istore (xs' := [vA 67, vI x1, vI x2, vI x3, vI x4, vI v8, vU, vU, vU, vU, vU, vU, vU]) (dA D_X12_nights 34 rfl) (by decide) rfl ?_
          refine x_aload_n (dA D_X12_nights 35 rfl) rfl ?_
          refine x_get (v := vA 69) (dA D_X12_nights 36 rfl) fw_RX12_13 (sO_67 hM7) (congrArg (rfV G) (sR_67_3 hM7)) ?_
          refine x_bipush (dA D_X12_nights 37 rfl) (by decide) (by decide) ?_
          refine x_iald (dA D_X12_nights 38 rfl) (sA_69 hM7 (by decide) (by decide)) ?_
          refine x_nmI (fun v9 ev9 => ?_)
          have h := h v9 ev9
          refine x_istore (xs' := [vA 67, vI x1, vI x2, vI x3, vI x4, vI v8, vI v9, vU, vU, vU, vU, vU, vU]) (dA D_X12_nights 39 rfl) (by decide) rfl ?_
          refine x_iconst (dA D_X12_nights 40 rfl) ?_
          refine x_istore (xs' := [vA 67, vI x1, vI x2, vI x3, vI x4, vI v8, vI v9, vI 0, vU, vU, vU, vU, vU]) (dA D_X12_nights 41 rfl) (by decide) rfl ?_
          refine x_iconst (dA D_X12_nights 42 rfl) ?_
          refine x_istore (xs' := [vA 67, vI x1, vI x2, vI x3, vI x4, vI v8, vI v9, vI 0, vI 0, vU, vU, vU, vU]) (dA D_X12_nights 43 rfl) (by decide) rfl ?_
          refine x_iconst (dA D_X12_nights 44 rfl) ?_
          refine x_istore (xs' := [vA 67, vI x1, vI x2, vI x3, vI x4, vI v8, vI v9, vI 0, vI 0, vI 0, vU, vU, vU]) (dA D_X12_nights 45 rfl) (by decide) rfl ?_
          refine x_iconst (dA D_X12_nights 46 rfl) ?_
          refine x_istore (xs' := [vA 67, vI x1, vI x2, vI x3, vI x4, vI v8, vI v9, vI 0, vI 0, vI 0, vI 0, vU, vU]) (dA D_X12_nights 47 rfl) (by decide) rfl ?_
          exact h
        · have h := h.2 c
          refine x_iconst (dA D_X12_nights 21 rfl) ?_
          exact x_ireturn (dA D_X12_nights 22 rfl) rfl h
theorem C_X12_nights {G : GG} {d : Nat} {x1 x2 x3 x4 : Int} {M : MM} {Q : PV → MM → Prop} (h : X G Y_X12_nights d 0 0 0 [vA 67, vI x1, vI x2, vI x3, vI x4, vU, vU, vU, vU, vU, vU, vU, vU] [] M Q) : C G Y_X12_nights d 0 0 [vA 67, vI x1, vI x2, vI x3, vI x4] M Q := X.entry (by decide) (Nat.le_of_ble_eq_true rfl) rfl rfl rfl h
set_option maxRecDepth 100000 in
theorem B_X12_nights_87 {G : GG} {d : Nat} {k n : Nat} {x1 x2 x3 x4 x5 x6 x7 x8 x9 x10 : Int} {M : MM} {Q : PV → MM → Prop} (hd : 2 ≤ d) (hS : Sh M) (h : inR x10 ∧ inR x1 ∧ ((x1 ≤ x10 → inR x4 ∧ Q (vI (if x4 ≠ 0 then (if x4 ≠ 1 then x9 else x8) else x7)) M) ∧ (x10 < x1 → ((x10 ≤ 0 → X G Y_X12_nights d k n 166 [vA 67, vI x1, vI x2, vI x3, vI x4, vI x5, vI x6, vI x7, vI x8, vI x9, vI x10, vU, vU] [] M Q) ∧ (0 < x10 → C G Y_X12_draw (d - 1) 0 0 [vA 67, vI ((rd M 69 32) + 1)] M (rI (fun r14 M13 => Sh M13 ∧ ∀ v15, v15 = (rd M 67 50) + r14 → C G Y_X12_draw (d - 1) 0 0 [vA 67, vI ((rd M13 69 35) + 1)] M13 (rI (fun r17 M16 => Sh M16 ∧ ∀ v18, v18 = (rd M13 67 51) + r17 → inR v15 ∧ ∀ v24, v24 = (if v15 ≤ 5 then v15 else 5) → inR v18 ∧ ∀ v30, v30 = (if v18 ≤ 5 then v18 else 5) → X G Y_X12_nights d k n 166 [vA 67, vI x1, vI x2, vI x3, vI x4, vI v24, vI v30, vI x7, vI x8, vI x9, vI x10, vU, vU] [] M16 Q))))))))) : X G Y_X12_nights d k n 87 [vA 67, vI x1, vI x2, vI x3, vI x4, vI x5, vI x6, vI x7, vI x8, vI x9, vI x10, vU, vU] [] M Q := by
  have hd1 : 1 ≤ d := by omega
  refine x_iload (dA D_X12_nights 48 rfl) rfl ?_
  refine x_iload_n (dA D_X12_nights 49 rfl) rfl ?_
  obtain ⟨h1, h⟩ := h
  obtain ⟨h2, h⟩ := h
  refine x_icmp_geP (tgt := 266) (dA D_X12_nights 50 rfl) (by decide) h1 h2 ⟨fun c => ?_, fun c => ?_⟩
  · have h := h.1 c
    refine x_iload (dA D_X12_nights 150 rfl) rfl ?_
    obtain ⟨h4, h⟩ := h
    have hJ : X G Y_X12_nights d k n 289 [vA 67, vI x1, vI x2, vI x3, vI x4, vI x5, vI x6, vI x7, vI x8, vI x9, vI x10, vU, vU] [vI (if x4 ≠ 0 then (if x4 ≠ 1 then x9 else x8) else x7)] M Q := by
      exact x_ireturn (dA D_X12_nights 160 rfl) rfl h
    refine x_if_neP (tgt := 276) (dA D_X12_nights 151 rfl) (by decide) h4 ⟨fun c3 => ?_, fun c3 => ?_⟩
    · refine x_iload (dA D_X12_nights 154 rfl) rfl ?_
      refine x_iconst (dA D_X12_nights 155 rfl) ?_
      refine x_icmp_neP (tgt := 287) (dA D_X12_nights 156 rfl) (by decide) h4 ⟨by decide, by decide⟩ ⟨fun c7 => ?_, fun c7 => ?_⟩
      · refine x_iload (dA D_X12_nights 159 rfl) rfl ?_
        rw [if_pos c3, if_pos c7] at hJ
        exact hJ
      · refine x_iload (dA D_X12_nights 157 rfl) rfl ?_
        refine x_goto (tgt := 289) (dA D_X12_nights 158 rfl) (by decide) ?_
        rw [if_pos c3, if_neg (by first | omega | grind)] at hJ
        exact hJ
    · refine x_iload (dA D_X12_nights 152 rfl) rfl ?_
      refine x_goto (tgt := 289) (dA D_X12_nights 153 rfl) (by decide) ?_
      rw [if_neg (by first | omega | grind)] at hJ
      exact hJ
  · have h := h.2 c
    refine x_iload (dA D_X12_nights 51 rfl) rfl ?_
    refine x_if_leP (tgt := 166) (dA D_X12_nights 52 rfl) (by decide) h1 ⟨fun c => ?_, fun c => ?_⟩
    · have h := h.1 c
      exact h
    · have h := h.2 c
      refine x_aload_n (dA D_X12_nights 53 rfl) rfl ?_
      refine x_get (v := vI (rd M 67 50)) (dA D_X12_nights 54 rfl) fw_RX12_505 (sO_67 hS) rfl ?_
      refine x_aload_n (dA D_X12_nights 55 rfl) rfl ?_
      refine x_aload_n (dA D_X12_nights 56 rfl) rfl ?_
      refine x_get (v := vA 69) (dA D_X12_nights 57 rfl) fw_RX12_13 (sO_67 hS) (congrArg (rfV G) (sR_67_3 hS)) ?_
      refine x_bipush (dA D_X12_nights 58 rfl) (by decide) (by decide) ?_
      refine x_iald (dA D_X12_nights 59 rfl) (sA_69 hS (by decide) (by decide)) ?_
      refine x_iconst (dA D_X12_nights 60 rfl) ?_
      refine x_iadd (dA D_X12_nights 61 rfl) ?_
      refine x_callV 11 [vI ((rd M 69 32) + 1)] [vI (rd M 67 50)] (dA D_X12_nights 62 rfl) cw_RX12_499 rfl rfl (Nat.le_of_ble_eq_true rfl) (by decide) rfl hd1 (zk k) (zk n) (sO_67 hS) h (kI (fun r14 M13 h => ?_))
      obtain ⟨hM13, h⟩ := h
      refine x_iadd (dA D_X12_nights 63 rfl) ?_
      refine x_nmI (fun v15 ev15 => ?_)
      have h := h v15 ev15
      refine x_istore (xs' := [vA 67, vI x1, vI x2, vI x3, vI x4, vI x5, vI x6, vI x7, vI x8, vI x9, vI x10, vI v15, vU]) (dA D_X12_nights 64 rfl) (by decide) rfl ?_
      refine x_aload_n (dA D_X12_nights 65 rfl) rfl ?_
      refine x_get (v := vI (rd M13 67 51)) (dA D_X12_nights 66 rfl) fw_RX12_508 (sO_67 hM13) rfl ?_
      refine x_aload_n (dA D_X12_nights 67 rfl) rfl ?_
      refine x_aload_n (dA D_X12_nights 68 rfl) rfl ?_
      refine x_get (v := vA 69) (dA D_X12_nights 69 rfl) fw_RX12_13 (sO_67 hM13) (congrArg (rfV G) (sR_67_3 hM13)) ?_
      refine x_bipush (dA D_X12_nights 70 rfl) (by decide) (by decide) ?_
      refine x_iald (dA D_X12_nights 71 rfl) (sA_69 hM13 (by decide) (by decide)) ?_
      refine x_iconst (dA D_X12_nights 72 rfl) ?_
      refine x_iadd (dA D_X12_nights 73 rfl) ?_
      refine x_callV 11 [vI ((rd M13 69 35) + 1)] [vI (rd M13 67 51)] (dA D_X12_nights 74 rfl) cw_RX12_499 rfl rfl (Nat.le_of_ble_eq_true rfl) (by decide) rfl hd1 (zk k) (zk n) (sO_67 hM13) h (kI (fun r17 M16 h => ?_))
      obtain ⟨hM16, h⟩ := h
      refine x_iadd (dA D_X12_nights 75 rfl) ?_
      refine x_nmI (fun v18 ev18 => ?_)
      have h := h v18 ev18
      refine x_istore (xs' := [vA 67, vI x1, vI x2, vI x3, vI x4, vI x5, vI x6, vI x7, vI x8, vI x9, vI x10, vI v15, vI v18]) (dA D_X12_nights 76 rfl) (by decide) rfl ?_
      refine x_iload (dA D_X12_nights 77 rfl) rfl ?_
      refine x_iconst (dA D_X12_nights 78 rfl) ?_
      obtain ⟨h20, h⟩ := h
      have hJ : X G Y_X12_nights d k n 150 [vA 67, vI x1, vI x2, vI x3, vI x4, vI x5, vI x6, vI x7, vI x8, vI x9, vI x10, vI v15, vI v18] [vI (if v15 ≤ 5 then v15 else 5)] M16 Q := by
        refine x_nmI (fun v24 ev24 => ?_)
        have h := h v24 ev24
        refine x_istore (xs' := [vA 67, vI x1, vI x2, vI x3, vI x4, vI v24, vI x6, vI x7, vI x8, vI x9, vI x10, vI v15, vI v18]) (dA D_X12_nights 83 rfl) (by decide) rfl ?_
        refine x_iload (dA D_X12_nights 84 rfl) rfl ?_
        refine x_iconst (dA D_X12_nights 85 rfl) ?_
        obtain ⟨h26, h⟩ := h
        have hJ : X G Y_X12_nights d k n 164 [vA 67, vI x1, vI x2, vI x3, vI x4, vI v24, vI x6, vI x7, vI x8, vI x9, vI x10, vI v15, vI v18] [vI (if v18 ≤ 5 then v18 else 5)] M16 Q := by
          refine x_nmI (fun v30 ev30 => ?_)
          have h := h v30 ev30
          refine x_istore (xs' := [vA 67, vI x1, vI x2, vI x3, vI x4, vI v24, vI v30, vI x7, vI x8, vI x9, vI x10, vI v15, vI v18]) (dA D_X12_nights 90 rfl) (by decide) rfl ?_
          refine X.weak (xs' := [vA 67, vI x1, vI x2, vI x3, vI x4, vI v24, vI v30, vI x7, vI x8, vI x9, vI x10, vU, vU]) ⟨Or.inl rfl, Or.inl rfl, Or.inl rfl, Or.inl rfl, Or.inl rfl, Or.inl rfl, Or.inl rfl, Or.inl rfl, Or.inl rfl, Or.inl rfl, Or.inl rfl, Or.inr rfl, Or.inr rfl, trivial⟩ ?_
          exact h
        refine x_icmp_leP (tgt := 162) (dA D_X12_nights 86 rfl) (by decide) h26 ⟨by decide, by decide⟩ ⟨fun c25 => ?_, fun c25 => ?_⟩
        · refine x_iload (dA D_X12_nights 89 rfl) rfl ?_
          rw [if_pos c25] at hJ
          exact hJ
        · refine x_iconst (dA D_X12_nights 87 rfl) ?_
          refine x_goto (tgt := 164) (dA D_X12_nights 88 rfl) (by decide) ?_
          rw [if_neg (by first | omega | grind)] at hJ
          exact hJ
      refine x_icmp_leP (tgt := 148) (dA D_X12_nights 79 rfl) (by decide) h20 ⟨by decide, by decide⟩ ⟨fun c19 => ?_, fun c19 => ?_⟩
      · refine x_iload (dA D_X12_nights 82 rfl) rfl ?_
        rw [if_pos c19] at hJ
        exact hJ
      · refine x_iconst (dA D_X12_nights 80 rfl) ?_
        refine x_goto (tgt := 150) (dA D_X12_nights 81 rfl) (by decide) ?_
        rw [if_neg (by first | omega | grind)] at hJ
        exact hJ
set_option maxRecDepth 100000 in
theorem B_X12_nights_166 {G : GG} {d : Nat} {k n : Nat} {x1 x2 x3 x4 x5 x6 x7 x8 x9 x10 : Int} {M : MM} {Q : PV → MM → Prop} (hd : 2 ≤ d) (hS : Sh M) (h : C G Y_X12_goThrough (d - 1) 0 0 [vA 67, vI x2, vI x5, vI x6] M (rU (fun M1 => Sh M1 ∧ ∀ v2, v2 = x7 + (x5 + x6) → ∀ v3, v3 = x8 + ((rd M1 67 50) + (rd M1 67 51)) → X G Y_X12_nights d k n 202 [vA 67, vI x1, vI x2, vI x3, vI x4, vI x5, vI x6, vI v2, vI v3, vI x9, vI x10, vI 0, vU] [] M1 Q))) : X G Y_X12_nights d k n 166 [vA 67, vI x1, vI x2, vI x3, vI x4, vI x5, vI x6, vI x7, vI x8, vI x9, vI x10, vU, vU] [] M Q := by
  have hd1 : 1 ≤ d := by omega
  refine x_aload_n (dA D_X12_nights 91 rfl) rfl ?_
  refine x_iload_n (dA D_X12_nights 92 rfl) rfl ?_
  refine x_iload (dA D_X12_nights 93 rfl) rfl ?_
  refine x_iload (dA D_X12_nights 94 rfl) rfl ?_
  refine x_callV 11 [vI x2, vI x5, vI x6] [] (dA D_X12_nights 95 rfl) cw_RX12_521 rfl rfl (Nat.le_of_ble_eq_true rfl) (by decide) rfl hd1 (zk k) (zk n) (sO_67 hS) h (kU (fun M1 h => ?_))
  obtain ⟨hM1, h⟩ := h
  refine x_iload (dA D_X12_nights 96 rfl) rfl ?_
  refine x_iload (dA D_X12_nights 97 rfl) rfl ?_
  refine x_iload (dA D_X12_nights 98 rfl) rfl ?_
  refine x_iadd (dA D_X12_nights 99 rfl) ?_
  refine x_iadd (dA D_X12_nights 100 rfl) ?_
  refine x_nmI (fun v2 ev2 => ?_)
  have h := h v2 ev2
  refine x_istore (xs' := [vA 67, vI x1, vI x2, vI x3, vI x4, vI x5, vI x6, vI v2, vI x8, vI x9, vI x10, vU, vU]) (dA D_X12_nights 101 rfl) (by decide) rfl ?_
  refine x_iload (dA D_X12_nights 102 rfl) rfl ?_
  refine x_aload_n (dA D_X12_nights 103 rfl) rfl ?_
  refine x_get (v := vI (rd M1 67 50)) (dA D_X12_nights 104 rfl) fw_RX12_505 (sO_67 hM1) rfl ?_
  refine x_aload_n (dA D_X12_nights 105 rfl) rfl ?_
  refine x_get (v := vI (rd M1 67 51)) (dA D_X12_nights 106 rfl) fw_RX12_508 (sO_67 hM1) rfl ?_
  refine x_iadd (dA D_X12_nights 107 rfl) ?_
  refine x_iadd (dA D_X12_nights 108 rfl) ?_
  refine x_nmI (fun v3 ev3 => ?_)
  have h := h v3 ev3
  refine x_istore (xs' := [vA 67, vI x1, vI x2, vI x3, vI x4, vI x5, vI x6, vI v2, vI v3, vI x9, vI x10, vU, vU]) (dA D_X12_nights 109 rfl) (by decide) rfl ?_
  refine x_iconst (dA D_X12_nights 110 rfl) ?_
  refine x_istore (xs' := [vA 67, vI x1, vI x2, vI x3, vI x4, vI x5, vI x6, vI v2, vI v3, vI x9, vI x10, vI 0, vU]) (dA D_X12_nights 111 rfl) (by decide) rfl ?_
  exact h
set_option maxRecDepth 100000 in
theorem B_X12_nights_202 {G : GG} {d : Nat} {k n : Nat} {x1 x2 x3 x4 x5 x6 x7 x8 x9 x10 x11 : Int} {M : MM} {Q : PV → MM → Prop} (hd : 2 ≤ d) (hS : Sh M) (h : inR x11 ∧ inR (rd M 67 48) ∧ (((rd M 67 48) ≤ x11 → X G Y_X12_nights d k n 87 [vA 67, vI x1, vI x2, vI x3, vI x4, vI x5, vI x6, vI x7, vI x8, vI x9, vI (x10 + 1), vU, vU] [] M Q) ∧ (x11 < (rd M 67 48) → 0 ≤ (3 * x11) ∧ (3 * x11) < 15 ∧ 0 ≤ ((10 + (3 * (rd M 92 (3 * x11)))) + (0 : Int)) ∧ ((10 + (3 * (rd M 92 (3 * x11)))) + (0 : Int)) < 5460 ∧ 0 ≤ ((3 * x11) + 1) ∧ ((3 * x11) + 1) < 15 ∧ 0 ≤ ((3 * x11) + 2) ∧ ((3 * x11) + 2) < 15 ∧ ∀ v11, v11 = x9 + ((rd M 69 ((10 + (3 * (rd M 92 (3 * x11)))) + (0 : Int))) * ((rd M 92 ((3 * x11) + 1)) + (rd M 92 ((3 * x11) + 2)))) → X G Y_X12_nights d k n 202 [vA 67, vI x1, vI x2, vI x3, vI x4, vI x5, vI x6, vI x7, vI x8, vI v11, vI x10, vI (x11 + 1), vU] [] M Q))) : X G Y_X12_nights d k n 202 [vA 67, vI x1, vI x2, vI x3, vI x4, vI x5, vI x6, vI x7, vI x8, vI x9, vI x10, vI x11, vU] [] M Q := by
  have hd1 : 1 ≤ d := by omega
  refine x_iload (dA D_X12_nights 112 rfl) rfl ?_
  refine x_aload_n (dA D_X12_nights 113 rfl) rfl ?_
  refine x_get (v := vI (rd M 67 48)) (dA D_X12_nights 114 rfl) fw_RX12_502 (sO_67 hS) rfl ?_
  obtain ⟨h1, h⟩ := h
  obtain ⟨h2, h⟩ := h
  refine x_icmp_geP (tgt := 260) (dA D_X12_nights 115 rfl) (by decide) h1 h2 ⟨fun c => ?_, fun c => ?_⟩
  · have h := h.1 c
    refine x_iinc (xs' := [vA 67, vI x1, vI x2, vI x3, vI x4, vI x5, vI x6, vI x7, vI x8, vI x9, vI (x10 + 1), vI x11, vU]) (dA D_X12_nights 148 rfl) rfl (by decide) rfl ?_
    refine x_goto (tgt := 87) (dA D_X12_nights 149 rfl) (by decide) ?_
    refine X.weak (xs' := [vA 67, vI x1, vI x2, vI x3, vI x4, vI x5, vI x6, vI x7, vI x8, vI x9, vI (x10 + 1), vU, vU]) ⟨Or.inl rfl, Or.inl rfl, Or.inl rfl, Or.inl rfl, Or.inl rfl, Or.inl rfl, Or.inl rfl, Or.inl rfl, Or.inl rfl, Or.inl rfl, Or.inl rfl, Or.inr rfl, Or.inl rfl, trivial⟩ ?_
    exact h
  · have h := h.2 c
    refine x_iload (dA D_X12_nights 116 rfl) rfl ?_
    refine x_aload_n (dA D_X12_nights 117 rfl) rfl ?_
    refine x_aload_n (dA D_X12_nights 118 rfl) rfl ?_
    refine x_get (v := vA 92) (dA D_X12_nights 119 rfl) fw_RX12_106 (sO_67 hS) (congrArg (rfV G) (sR_67_49 hS)) ?_
    refine x_iconst (dA D_X12_nights 120 rfl) ?_
    refine x_iload (dA D_X12_nights 121 rfl) rfl ?_
    refine x_imul (dA D_X12_nights 122 rfl) ?_
    obtain ⟨h3, h⟩ := h
    obtain ⟨h4, h⟩ := h
    refine x_iald (dA D_X12_nights 123 rfl) (sA_92 hS h3 h4) ?_
    refine x_iconst (dA D_X12_nights 124 rfl) ?_
    obtain ⟨h5, h⟩ := h
    obtain ⟨h6, h⟩ := h
    refine x_callV 11 [vI (rd M 92 (3 * x11)), vI 0] [vI x9] (dA D_X12_nights 125 rfl) cw_RX12_350 rfl rfl (Nat.le_of_ble_eq_true rfl) (by decide) rfl hd1 (zk k) (zk n) (sO_67 hS) (S_X12_ofScene hS h5 h6 (by omega) ?_) (kI (fun _ _ h => h))
    show X G Y_X12_nights d k n 227 [vA 67, vI x1, vI x2, vI x3, vI x4, vI x5, vI x6, vI x7, vI x8, vI x9, vI x10, vI x11, vU] [vI (rd M 69 ((10 + (3 * (rd M 92 (3 * x11)))) + (0 : Int))), vI x9] M Q
    refine x_aload_n (dA D_X12_nights 126 rfl) rfl ?_
    refine x_get (v := vA 92) (dA D_X12_nights 127 rfl) fw_RX12_106 (sO_67 hS) (congrArg (rfV G) (sR_67_49 hS)) ?_
    refine x_iconst (dA D_X12_nights 128 rfl) ?_
    refine x_iload (dA D_X12_nights 129 rfl) rfl ?_
    refine x_imul (dA D_X12_nights 130 rfl) ?_
    refine x_iconst (dA D_X12_nights 131 rfl) ?_
    refine x_iadd (dA D_X12_nights 132 rfl) ?_
    obtain ⟨h7, h⟩ := h
    obtain ⟨h8, h⟩ := h
    refine x_iald (dA D_X12_nights 133 rfl) (sA_92 hS h7 h8) ?_
    refine x_aload_n (dA D_X12_nights 134 rfl) rfl ?_
    refine x_get (v := vA 92) (dA D_X12_nights 135 rfl) fw_RX12_106 (sO_67 hS) (congrArg (rfV G) (sR_67_49 hS)) ?_
    refine x_iconst (dA D_X12_nights 136 rfl) ?_
    refine x_iload (dA D_X12_nights 137 rfl) rfl ?_
    refine x_imul (dA D_X12_nights 138 rfl) ?_
    refine x_iconst (dA D_X12_nights 139 rfl) ?_
    refine x_iadd (dA D_X12_nights 140 rfl) ?_
    obtain ⟨h9, h⟩ := h
    obtain ⟨h10, h⟩ := h
    refine x_iald (dA D_X12_nights 141 rfl) (sA_92 hS h9 h10) ?_
    refine x_iadd (dA D_X12_nights 142 rfl) ?_
    refine x_imul (dA D_X12_nights 143 rfl) ?_
    refine x_iadd (dA D_X12_nights 144 rfl) ?_
    refine x_nmI (fun v11 ev11 => ?_)
    have h := h v11 ev11
    refine x_istore (xs' := [vA 67, vI x1, vI x2, vI x3, vI x4, vI x5, vI x6, vI x7, vI x8, vI v11, vI x10, vI x11, vU]) (dA D_X12_nights 145 rfl) (by decide) rfl ?_
    refine x_iinc (xs' := [vA 67, vI x1, vI x2, vI x3, vI x4, vI x5, vI x6, vI x7, vI x8, vI v11, vI x10, vI (x11 + 1), vU]) (dA D_X12_nights 146 rfl) rfl (by decide) rfl ?_
    refine x_goto (tgt := 202) (dA D_X12_nights 147 rfl) (by decide) ?_
    exact h
set_option maxRecDepth 100000 in
theorem B_X12_image_0 {G : GG} {d : Nat} {k n : Nat} {x1 : Int} {M : MM} {Q : PV → MM → Prop} (hd : 2 ≤ d) (hS : Sh M) (h : ∀ M1, M1 = wr M 67 0 0 → Sh M1 → inR x1 ∧ ((((0 : Int) ≤ x1) ∧ (x1 ≤ (1 : Int)) → X G Y_X12_image d k n 23 [vA 67, vI x1, vI 0] [] M1 Q) ∧ (¬ (((0 : Int) ≤ x1) ∧ (x1 ≤ (1 : Int))) → ∀ M3, M3 = telM M1 (-1 : Int) → Sh M3 → Q (vI (-1 : Int)) M3))) : X G Y_X12_image d k n 0 [vA 67, vI x1, vU] [] M Q := by
  have hd1 : 1 ≤ d := by omega
  refine x_aload_n (dA D_X12_image 0 rfl) rfl ?_
  refine x_iconst (dA D_X12_image 1 rfl) ?_
  refine x_put (x := 0) (dA D_X12_image 2 rfl) fw_RX12_115 (fun _ _ hc => by cases hc; exact Or.inl rfl) (sO_67 hS) rfl rfl rfl ?_
  refine x_nmM (fun M1 eM1 => ?_)
  have hM1 : Sh M1 := eM1 ▸ (sW_67_0 hS)
  have h := h M1 eM1 hM1
  refine x_iload_n (dA D_X12_image 3 rfl) rfl ?_
  obtain ⟨h2, h⟩ := h
  refine x_i2l (dA D_X12_image 4 rfl) h2 ?_
  refine x_lconst (a := 0) (dA D_X12_image 5 rfl) (by decide) ?_
  refine x_lconst (a := 1) (dA D_X12_image 6 rfl) (by decide) ?_
  refine x_callS [vL x1, vL 0, vL 1] [] (dA D_X12_image 7 rfl) cw_RX12_125 rfl rfl (Nat.le_of_ble_eq_true rfl) hd1 (zk k) (zk n) (S_X12_in (inR_L h2) ⟨by decide, by decide⟩ ⟨by decide, by decide⟩ (by omega) ?_) (kI (fun _ _ h => h))
  show X G Y_X12_image d k n 12 [vA 67, vI x1, vU] [vI (if ((0 : Int) ≤ x1) ∧ (x1 ≤ (1 : Int)) then 1 else 0)] M1 Q
  refine x_if_neB (tgt := 21) (dA D_X12_image 8 rfl) (by decide) ⟨fun c => ?_, fun c => ?_⟩
  · have h := h.1 c
    refine x_iconst (dA D_X12_image 13 rfl) ?_
    refine x_istore_n (xs' := [vA 67, vI x1, vI 0]) (dA D_X12_image 14 rfl) (by decide) rfl ?_
    exact h
  · have h := h.2 c
    refine x_aload_n (dA D_X12_image 9 rfl) rfl ?_
    refine x_iconst (dA D_X12_image 10 rfl) ?_
    refine x_callV 11 [vI (-1)] [] (dA D_X12_image 11 rfl) cw_RX12_129 rfl rfl (Nat.le_of_ble_eq_true rfl) (by decide) rfl hd1 (zk k) (zk n) (sO_67 hM1) (S_X12_tell hM1 ⟨by decide, by decide, by decide⟩ (by omega) ?_) (kI (fun _ _ h => h))
    refine x_nmM (fun M3 eM3 => ?_)
    have hM3 : Sh M3 := eM3 ▸ (sTel hM1)
    have h := h M3 eM3 hM3
    show X G Y_X12_image d k n 20 [vA 67, vI x1, vU] [vI (-1 : Int)] M3 Q
    exact x_ireturn (dA D_X12_image 12 rfl) rfl h
theorem C_X12_image {G : GG} {d : Nat} {x1 : Int} {M : MM} {Q : PV → MM → Prop} (h : X G Y_X12_image d 0 0 0 [vA 67, vI x1, vU] [] M Q) : C G Y_X12_image d 0 0 [vA 67, vI x1] M Q := X.entry (by decide) (Nat.le_of_ble_eq_true rfl) rfl rfl rfl h
set_option maxRecDepth 100000 in
theorem B_X12_image_23 {G : GG} {d : Nat} {k n : Nat} {x1 x2 : Int} {M : MM} {Q : PV → MM → Prop} (hd : 2 ≤ d) (hS : Sh M) (h : inR x2 ∧ ((5460 ≤ x2 → 0 ≤ x1 ∧ x1 < 2 ∧ ∀ M4, M4 = wr M 71 x1 1 → Sh M4 → ∀ M5, M5 = telM M4 (0 : Int) → Sh M5 → Q (vI (0 : Int)) M5) ∧ (x2 < 5460 → 0 ≤ x2 ∧ x2 < 5460 ∧ 0 ≤ ((5460 * x1) + x2) ∧ ((5460 * x1) + x2) < 10920 ∧ ∀ M10, M10 = wr M 70 ((5460 * x1) + x2) (rd M 69 x2) → Sh M10 → X G Y_X12_image d k n 23 [vA 67, vI x1, vI (x2 + 1)] [] M10 Q))) : X G Y_X12_image d k n 23 [vA 67, vI x1, vI x2] [] M Q := by
  have hd1 : 1 ≤ d := by omega
  refine x_iload_n (dA D_X12_image 15 rfl) rfl ?_
  refine x_sipush (dA D_X12_image 16 rfl) (by decide) (by decide) ?_
  obtain ⟨h1, h⟩ := h
  refine x_icmp_geP (tgt := 54) (dA D_X12_image 17 rfl) (by decide) h1 ⟨by decide, by decide⟩ ⟨fun c => ?_, fun c => ?_⟩
  · have h := h.1 c
    refine x_aload_n (dA D_X12_image 32 rfl) rfl ?_
    refine x_get (v := vA 71) (dA D_X12_image 33 rfl) fw_RX12_19 (sO_67 hS) (congrArg (rfV G) (sR_67_5 hS)) ?_
    refine x_iload_n (dA D_X12_image 34 rfl) rfl ?_
    refine x_iconst (dA D_X12_image 35 rfl) ?_
    obtain ⟨h2, h⟩ := h
    obtain ⟨h3, h⟩ := h
    refine x_zast (dA D_X12_image 36 rfl) (by decide) (sA_71 hS h2 h3) ?_
    refine x_nmM (fun M4 eM4 => ?_)
    have hM4 : Sh M4 := eM4 ▸ (sW_71 hS)
    have h := h M4 eM4 hM4
    refine x_aload_n (dA D_X12_image 37 rfl) rfl ?_
    refine x_iconst (dA D_X12_image 38 rfl) ?_
    refine x_callV 11 [vI 0] [] (dA D_X12_image 39 rfl) cw_RX12_129 rfl rfl (Nat.le_of_ble_eq_true rfl) (by decide) rfl hd1 (zk k) (zk n) (sO_67 hM4) (S_X12_tell hM4 ⟨by decide, by decide, by decide⟩ (by omega) ?_) (kI (fun _ _ h => h))
    refine x_nmM (fun M5 eM5 => ?_)
    have hM5 : Sh M5 := eM5 ▸ (sTel hM4)
    have h := h M5 eM5 hM5
    show X G Y_X12_image d k n 66 [vA 67, vI x1, vI x2] [vI (0 : Int)] M5 Q
    exact x_ireturn (dA D_X12_image 40 rfl) rfl h
  · have h := h.2 c
    refine x_aload_n (dA D_X12_image 18 rfl) rfl ?_
    refine x_get (v := vA 70) (dA D_X12_image 19 rfl) fw_RX12_16 (sO_67 hS) (congrArg (rfV G) (sR_67_4 hS)) ?_
    refine x_sipush (dA D_X12_image 20 rfl) (by decide) (by decide) ?_
    refine x_iload_n (dA D_X12_image 21 rfl) rfl ?_
    refine x_imul (dA D_X12_image 22 rfl) ?_
    refine x_iload_n (dA D_X12_image 23 rfl) rfl ?_
    refine x_iadd (dA D_X12_image 24 rfl) ?_
    refine x_aload_n (dA D_X12_image 25 rfl) rfl ?_
    refine x_get (v := vA 69) (dA D_X12_image 26 rfl) fw_RX12_13 (sO_67 hS) (congrArg (rfV G) (sR_67_3 hS)) ?_
    refine x_iload_n (dA D_X12_image 27 rfl) rfl ?_
    obtain ⟨h6, h⟩ := h
    obtain ⟨h7, h⟩ := h
    refine x_iald (dA D_X12_image 28 rfl) (sA_69 hS h6 h7) ?_
    obtain ⟨h8, h⟩ := h
    obtain ⟨h9, h⟩ := h
    refine x_iast (dA D_X12_image 29 rfl) (sA_70 hS h8 h9) ?_
    refine x_nmM (fun M10 eM10 => ?_)
    have hM10 : Sh M10 := eM10 ▸ (sW_70 hS)
    have h := h M10 eM10 hM10
    refine x_iinc (xs' := [vA 67, vI x1, vI (x2 + 1)]) (dA D_X12_image 30 rfl) rfl (by decide) rfl ?_
    refine x_goto (tgt := 23) (dA D_X12_image 31 rfl) (by decide) ?_
    exact h
set_option maxRecDepth 100000 in
theorem B_X12_back_0 {G : GG} {d : Nat} {k n : Nat} {x1 : Int} {M : MM} {Q : PV → MM → Prop} (hd : 2 ≤ d) (hS : Sh M) (h : ∀ M1, M1 = wr M 67 0 0 → Sh M1 → inR x1 ∧ ((((0 : Int) ≤ x1) ∧ (x1 ≤ (1 : Int)) → 0 ≤ x1 ∧ x1 < 2 ∧ inR (rd M1 71 x1) ∧ (((rd M1 71 x1) ≠ 0 → X G Y_X12_back d k n 39 [vA 67, vI x1, vI 0] [] M1 Q) ∧ ((rd M1 71 x1) = 0 → ∀ M6, M6 = telM M1 (-2 : Int) → Sh M6 → Q (vI (-2 : Int)) M6))) ∧ (¬ (((0 : Int) ≤ x1) ∧ (x1 ≤ (1 : Int))) → ∀ M7, M7 = telM M1 (-1 : Int) → Sh M7 → Q (vI (-1 : Int)) M7))) : X G Y_X12_back d k n 0 [vA 67, vI x1, vU] [] M Q := by
  have hd1 : 1 ≤ d := by omega
  refine x_aload_n (dA D_X12_back 0 rfl) rfl ?_
  refine x_iconst (dA D_X12_back 1 rfl) ?_
  refine x_put (x := 0) (dA D_X12_back 2 rfl) fw_RX12_115 (fun _ _ hc => by cases hc; exact Or.inl rfl) (sO_67 hS) rfl rfl rfl ?_
  refine x_nmM (fun M1 eM1 => ?_)
  have hM1 : Sh M1 := eM1 ▸ (sW_67_0 hS)
  have h := h M1 eM1 hM1
  refine x_iload_n (dA D_X12_back 3 rfl) rfl ?_
  obtain ⟨h2, h⟩ := h
  refine x_i2l (dA D_X12_back 4 rfl) h2 ?_
  refine x_lconst (a := 0) (dA D_X12_back 5 rfl) (by decide) ?_
  refine x_lconst (a := 1) (dA D_X12_back 6 rfl) (by decide) ?_
  refine x_callS [vL x1, vL 0, vL 1] [] (dA D_X12_back 7 rfl) cw_RX12_125 rfl rfl (Nat.le_of_ble_eq_true rfl) hd1 (zk k) (zk n) (S_X12_in (inR_L h2) ⟨by decide, by decide⟩ ⟨by decide, by decide⟩ (by omega) ?_) (kI (fun _ _ h => h))
  show X G Y_X12_back d k n 12 [vA 67, vI x1, vU] [vI (if ((0 : Int) ≤ x1) ∧ (x1 ≤ (1 : Int)) then 1 else 0)] M1 Q
  refine x_if_neB (tgt := 21) (dA D_X12_back 8 rfl) (by decide) ⟨fun c => ?_, fun c => ?_⟩
  · have h := h.1 c
    refine x_aload_n (dA D_X12_back 13 rfl) rfl ?_
    refine x_get (v := vA 71) (dA D_X12_back 14 rfl) fw_RX12_19 (sO_67 hM1) (congrArg (rfV G) (sR_67_5 hM1)) ?_
    refine x_iload_n (dA D_X12_back 15 rfl) rfl ?_
    obtain ⟨h3, h⟩ := h
    obtain ⟨h4, h⟩ := h
    refine x_zald (dA D_X12_back 16 rfl) (sA_71 hM1 h3 h4) ?_
    obtain ⟨h5, h⟩ := h
    refine x_if_neP (tgt := 37) (dA D_X12_back 17 rfl) (by decide) h5 ⟨fun c => ?_, fun c => ?_⟩
    · have h := h.1 c
      refine x_iconst (dA D_X12_back 22 rfl) ?_
      refine x_istore_n (xs' := [vA 67, vI x1, vI 0]) (dA D_X12_back 23 rfl) (by decide) rfl ?_
      exact h
    · have h := h.2 c
      refine x_aload_n (dA D_X12_back 18 rfl) rfl ?_
      refine x_bipush (dA D_X12_back 19 rfl) (by decide) (by decide) ?_
      refine x_callV 11 [vI (-2)] [] (dA D_X12_back 20 rfl) cw_RX12_129 rfl rfl (Nat.le_of_ble_eq_true rfl) (by decide) rfl hd1 (zk k) (zk n) (sO_67 hM1) (S_X12_tell hM1 ⟨by decide, by decide, by decide⟩ (by omega) ?_) (kI (fun _ _ h => h))
      refine x_nmM (fun M6 eM6 => ?_)
      have hM6 : Sh M6 := eM6 ▸ (sTel hM1)
      have h := h M6 eM6 hM6
      show X G Y_X12_back d k n 36 [vA 67, vI x1, vU] [vI (-2 : Int)] M6 Q
      exact x_ireturn (dA D_X12_back 21 rfl) rfl h
  · have h := h.2 c
    refine x_aload_n (dA D_X12_back 9 rfl) rfl ?_
    refine x_iconst (dA D_X12_back 10 rfl) ?_
    refine x_callV 11 [vI (-1)] [] (dA D_X12_back 11 rfl) cw_RX12_129 rfl rfl (Nat.le_of_ble_eq_true rfl) (by decide) rfl hd1 (zk k) (zk n) (sO_67 hM1) (S_X12_tell hM1 ⟨by decide, by decide, by decide⟩ (by omega) ?_) (kI (fun _ _ h => h))
    refine x_nmM (fun M7 eM7 => ?_)
    have hM7 : Sh M7 := eM7 ▸ (sTel hM1)
    have h := h M7 eM7 hM7
    show X G Y_X12_back d k n 20 [vA 67, vI x1, vU] [vI (-1 : Int)] M7 Q
    exact x_ireturn (dA D_X12_back 12 rfl) rfl h
theorem C_X12_back {G : GG} {d : Nat} {x1 : Int} {M : MM} {Q : PV → MM → Prop} (h : X G Y_X12_back d 0 0 0 [vA 67, vI x1, vU] [] M Q) : C G Y_X12_back d 0 0 [vA 67, vI x1] M Q := X.entry (by decide) (Nat.le_of_ble_eq_true rfl) rfl rfl rfl h
set_option maxRecDepth 100000 in
theorem B_X12_back_39 {G : GG} {d : Nat} {k n : Nat} {x1 x2 : Int} {M : MM} {Q : PV → MM → Prop} (hd : 2 ≤ d) (hS : Sh M) (h : inR x2 ∧ ((5460 ≤ x2 → ∀ M2, M2 = telM M (0 : Int) → Sh M2 → Q (vI (0 : Int)) M2) ∧ (x2 < 5460 → 0 ≤ ((5460 * x1) + x2) ∧ ((5460 * x1) + x2) < 10920 ∧ 0 ≤ x2 ∧ x2 < 5460 ∧ ∀ M7, M7 = wr M 69 x2 (rd M 70 ((5460 * x1) + x2)) → Sh M7 → X G Y_X12_back d k n 39 [vA 67, vI x1, vI (x2 + 1)] [] M7 Q))) : X G Y_X12_back d k n 39 [vA 67, vI x1, vI x2] [] M Q := by
  have hd1 : 1 ≤ d := by omega
  refine x_iload_n (dA D_X12_back 24 rfl) rfl ?_
  refine x_sipush (dA D_X12_back 25 rfl) (by decide) (by decide) ?_
  obtain ⟨h1, h⟩ := h
  refine x_icmp_geP (tgt := 70) (dA D_X12_back 26 rfl) (by decide) h1 ⟨by decide, by decide⟩ ⟨fun c => ?_, fun c => ?_⟩
  · have h := h.1 c
    refine x_aload_n (dA D_X12_back 41 rfl) rfl ?_
    refine x_iconst (dA D_X12_back 42 rfl) ?_
    refine x_callV 11 [vI 0] [] (dA D_X12_back 43 rfl) cw_RX12_129 rfl rfl (Nat.le_of_ble_eq_true rfl) (by decide) rfl hd1 (zk k) (zk n) (sO_67 hS) (S_X12_tell hS ⟨by decide, by decide, by decide⟩ (by omega) ?_) (kI (fun _ _ h => h))
    refine x_nmM (fun M2 eM2 => ?_)
    have hM2 : Sh M2 := eM2 ▸ (sTel hS)
    have h := h M2 eM2 hM2
    show X G Y_X12_back d k n 75 [vA 67, vI x1, vI x2] [vI (0 : Int)] M2 Q
    exact x_ireturn (dA D_X12_back 44 rfl) rfl h
  · have h := h.2 c
    refine x_aload_n (dA D_X12_back 27 rfl) rfl ?_
    refine x_get (v := vA 69) (dA D_X12_back 28 rfl) fw_RX12_13 (sO_67 hS) (congrArg (rfV G) (sR_67_3 hS)) ?_
    refine x_iload_n (dA D_X12_back 29 rfl) rfl ?_
    refine x_aload_n (dA D_X12_back 30 rfl) rfl ?_
    refine x_get (v := vA 70) (dA D_X12_back 31 rfl) fw_RX12_16 (sO_67 hS) (congrArg (rfV G) (sR_67_4 hS)) ?_
    refine x_sipush (dA D_X12_back 32 rfl) (by decide) (by decide) ?_
    refine x_iload_n (dA D_X12_back 33 rfl) rfl ?_
    refine x_imul (dA D_X12_back 34 rfl) ?_
    refine x_iload_n (dA D_X12_back 35 rfl) rfl ?_
    refine x_iadd (dA D_X12_back 36 rfl) ?_
    obtain ⟨h3, h⟩ := h
    obtain ⟨h4, h⟩ := h
    refine x_iald (dA D_X12_back 37 rfl) (sA_70 hS h3 h4) ?_
    obtain ⟨h5, h⟩ := h
    obtain ⟨h6, h⟩ := h
    refine x_iast (dA D_X12_back 38 rfl) (sA_69 hS h5 h6) ?_
    refine x_nmM (fun M7 eM7 => ?_)
    have hM7 : Sh M7 := eM7 ▸ (sW_69 hS)
    have h := h M7 eM7 hM7
    refine x_iinc (xs' := [vA 67, vI x1, vI (x2 + 1)]) (dA D_X12_back 39 rfl) rfl (by decide) rfl ?_
    refine x_goto (tgt := 39) (dA D_X12_back 40 rfl) (by decide) ?_
    exact h
set_option maxRecDepth 100000 in
theorem B_X12_law_0 {G : GG} {d : Nat} {k n : Nat} {M : MM} {Q : PV → MM → Prop} (hd : 2 ≤ d) (hS : Sh M) (h : ∀ M1, M1 = wr M 67 0 0 → Sh M1 → inR (rd M1 69 1) ∧ (((rd M1 69 1) ≠ 6 → C G Y_X12_begin (d - 1) 0 0 [vA 67] M1 (rU (fun M3 => Sh M3 ∧ ∀ M4, M4 = wr M3 67 15 0 → Sh M4 → ∀ M5, M5 = wr M4 67 17 0 → Sh M5 → ∀ M6, M6 = wr M5 67 20 0 → Sh M6 → C G Y_X12_readClause (d - 1) 0 0 [vA 67] M6 (rU (fun M7 => Sh M7 ∧ X G Y_X12_law d k n 51 [vA 67, vU, vU] [] M7 Q))))) ∧ ((rd M1 69 1) = 6 → ∀ M8, M8 = wr M1 67 8 0 → Sh M8 → ∀ M9, M9 = telM M8 (-5 : Int) → Sh M9 → Q (vI (-5 : Int)) M9))) : X G Y_X12_law d k n 0 [vA 67, vU, vU] [] M Q := by
  have hd1 : 1 ≤ d := by omega
  refine x_aload_n (dA D_X12_law 0 rfl) rfl ?_
  refine x_iconst (dA D_X12_law 1 rfl) ?_
  refine x_put (x := 0) (dA D_X12_law 2 rfl) fw_RX12_115 (fun _ _ hc => by cases hc; exact Or.inl rfl) (sO_67 hS) rfl rfl rfl ?_
  refine x_nmM (fun M1 eM1 => ?_)
  have hM1 : Sh M1 := eM1 ▸ (sW_67_0 hS)
  have h := h M1 eM1 hM1
  refine x_aload_n (dA D_X12_law 3 rfl) rfl ?_
  refine x_get (v := vA 69) (dA D_X12_law 4 rfl) fw_RX12_13 (sO_67 hM1) (congrArg (rfV G) (sR_67_3 hM1)) ?_
  refine x_iconst (dA D_X12_law 5 rfl) ?_
  refine x_iald (dA D_X12_law 6 rfl) (sA_69 hM1 (by decide) (by decide)) ?_
  refine x_bipush (dA D_X12_law 7 rfl) (by decide) (by decide) ?_
  obtain ⟨h2, h⟩ := h
  refine x_icmp_neP (tgt := 28) (dA D_X12_law 8 rfl) (by decide) h2 ⟨by decide, by decide⟩ ⟨fun c => ?_, fun c => ?_⟩
  · have h := h.1 c
    refine x_aload_n (dA D_X12_law 16 rfl) rfl ?_
    refine x_callV 11 [] [] (dA D_X12_law 17 rfl) cw_RX12_310 rfl rfl (Nat.le_of_ble_eq_true rfl) (by decide) rfl hd1 (zk k) (zk n) (sO_67 hM1) h (kU (fun M3 h => ?_))
    obtain ⟨hM3, h⟩ := h
    refine x_aload_n (dA D_X12_law 18 rfl) rfl ?_
    refine x_iconst (dA D_X12_law 19 rfl) ?_
    refine x_put (x := 0) (dA D_X12_law 20 rfl) fw_RX12_302 (fun _ _ hc => by cases hc; exact Or.inl rfl) (sO_67 hM3) rfl rfl rfl ?_
    refine x_nmM (fun M4 eM4 => ?_)
    have hM4 : Sh M4 := eM4 ▸ (sW_67_15 hM3)
    have h := h M4 eM4 hM4
    refine x_aload_n (dA D_X12_law 21 rfl) rfl ?_
    refine x_iconst (dA D_X12_law 22 rfl) ?_
    refine x_put (x := 0) (dA D_X12_law 23 rfl) fw_RX12_220 (fun _ _ hc => by cases hc; exact Or.inl rfl) (sO_67 hM4) rfl rfl rfl ?_
    refine x_nmM (fun M5 eM5 => ?_)
    have hM5 : Sh M5 := eM5 ▸ (sW_67_17 hM4)
    have h := h M5 eM5 hM5
    refine x_aload_n (dA D_X12_law 24 rfl) rfl ?_
    refine x_iconst (dA D_X12_law 25 rfl) ?_
    refine x_put (x := 0) (dA D_X12_law 26 rfl) fw_RX12_251 (fun _ _ hc => by cases hc; exact Or.inl rfl) (sO_67 hM5) rfl rfl rfl ?_
    refine x_nmM (fun M6 eM6 => ?_)
    have hM6 : Sh M6 := eM6 ▸ (sW_67_20 hM5)
    have h := h M6 eM6 hM6
    refine x_aload_n (dA D_X12_law 27 rfl) rfl ?_
    refine x_callV 11 [] [] (dA D_X12_law 28 rfl) cw_RX12_313 rfl rfl (Nat.le_of_ble_eq_true rfl) (by decide) rfl hd1 (zk k) (zk n) (sO_67 hM6) h (kU (fun M7 h => ?_))
    obtain ⟨hM7, h⟩ := h
    exact h
  · have h := h.2 c
    refine x_aload_n (dA D_X12_law 9 rfl) rfl ?_
    refine x_iconst (dA D_X12_law 10 rfl) ?_
    refine x_put (x := 0) (dA D_X12_law 11 rfl) fw_RX12_168 (fun _ _ hc => by cases hc; exact Or.inl rfl) (sO_67 hM1) rfl rfl rfl ?_
    refine x_nmM (fun M8 eM8 => ?_)
    have hM8 : Sh M8 := eM8 ▸ (sW_67_8 hM1)
    have h := h M8 eM8 hM8
    refine x_aload_n (dA D_X12_law 12 rfl) rfl ?_
    refine x_bipush (dA D_X12_law 13 rfl) (by decide) (by decide) ?_
    refine x_callV 11 [vI (-5)] [] (dA D_X12_law 14 rfl) cw_RX12_129 rfl rfl (Nat.le_of_ble_eq_true rfl) (by decide) rfl hd1 (zk k) (zk n) (sO_67 hM8) (S_X12_tell hM8 ⟨by decide, by decide, by decide⟩ (by omega) ?_) (kI (fun _ _ h => h))
    refine x_nmM (fun M9 eM9 => ?_)
    have hM9 : Sh M9 := eM9 ▸ (sTel hM8)
    have h := h M9 eM9 hM9
    show X G Y_X12_law d k n 27 [vA 67, vU, vU] [vI (-5 : Int)] M9 Q
    exact x_ireturn (dA D_X12_law 15 rfl) rfl h
theorem C_X12_law {G : GG} {d : Nat} {M : MM} {Q : PV → MM → Prop} (h : X G Y_X12_law d 0 0 0 [vA 67, vU, vU] [] M Q) : C G Y_X12_law d 0 0 [vA 67] M Q := X.entry (by decide) (Nat.le_of_ble_eq_true rfl) rfl rfl rfl h
set_option maxRecDepth 100000 in
theorem B_X12_law_51 {G : GG} {d : Nat} {k n : Nat} {M : MM} {Q : PV → MM → Prop} (hd : 2 ≤ d) (hS : Sh M) (h : inR (rd M 67 14) ∧ (((rd M 67 14) ≠ 0 → inR (rd M 67 11) ∧ (((((rd M 67 14) ≠ 0) ∨ ((rd M 67 11) = 0)) → X G Y_X12_law d k n 97 [vA 67, vU, vU] [] M Q) ∧ (¬ (((rd M 67 14) ≠ 0) ∨ ((rd M 67 11) = 0)) → C G Y_X12_must (d - 1) 0 0 [vA 67, vI 0] M (rU (fun M10 => Sh M10 ∧ X G Y_X12_law d k n 97 [vA 67, vU, vU] [] M10 Q))))) ∧ ((rd M 67 14) = 0 → inR (rd M 67 11) ∧ inL (rd M 67 12) ∧ ((¬ (((rd M 67 11) = 3) ∧ ((rd M 67 12) = (59 : Int))) → (((((rd M 67 14) ≠ 0) ∨ ((rd M 67 11) = 0)) → X G Y_X12_law d k n 97 [vA 67, vU, vU] [] M Q) ∧ (¬ (((rd M 67 14) ≠ 0) ∨ ((rd M 67 11) = 0)) → C G Y_X12_must (d - 1) 0 0 [vA 67, vI 0] M (rU (fun M21 => Sh M21 ∧ X G Y_X12_law d k n 97 [vA 67, vU, vU] [] M21 Q))))) ∧ (((rd M 67 11) = 3) ∧ ((rd M 67 12) = (59 : Int)) → C G Y_X12_goOn (d - 1) 0 0 [vA 67] M (rU (fun M23 => Sh M23 ∧ C G Y_X12_readClause (d - 1) 0 0 [vA 67] M23 (rU (fun M24 => Sh M24 ∧ X G Y_X12_law d k n 51 [vA 67, vU, vU] [] M24 Q))))))))) : X G Y_X12_law d k n 51 [vA 67, vU, vU] [] M Q := by
  have hd1 : 1 ≤ d := by omega
  refine x_aload_n (dA D_X12_law 29 rfl) rfl ?_
  refine x_get (v := vI (rd M 67 14)) (dA D_X12_law 30 rfl) fw_RX12_181 (sO_67 hS) rfl ?_
  obtain ⟨h1, h⟩ := h
  refine x_if_neP (tgt := 78) (dA D_X12_law 31 rfl) (by decide) h1 ⟨fun c => ?_, fun c => ?_⟩
  · have h := h.1 c
    refine x_aload_n (dA D_X12_law 41 rfl) rfl ?_
    refine x_get (v := vI (rd M 67 14)) (dA D_X12_law 42 rfl) fw_RX12_181 (sO_67 hS) rfl ?_
    obtain ⟨h6, h⟩ := h
    have hA : (((rd M 67 14) ≠ 0) ∨ ((rd M 67 11) = 0)) → X G Y_X12_law d k n 97 [vA 67, vU, vU] [] M Q := by
      intro c11
      have h := h.1 c11
      exact h
    have hB : ¬ (((rd M 67 14) ≠ 0) ∨ ((rd M 67 11) = 0)) → X G Y_X12_law d k n 92 [vA 67, vU, vU] [] M Q := by
      intro c11
      have h := h.2 c11
      refine x_aload_n (dA D_X12_law 47 rfl) rfl ?_
      refine x_iconst (dA D_X12_law 48 rfl) ?_
      refine x_callV 11 [vI 0] [] (dA D_X12_law 49 rfl) cw_RX12_216 rfl rfl (Nat.le_of_ble_eq_true rfl) (by decide) rfl hd1 (zk k) (zk n) (sO_67 hS) h (kU (fun M10 h => ?_))
      obtain ⟨hM10, h⟩ := h
      exact h
    refine x_if_neP (tgt := 97) (dA D_X12_law 43 rfl) (by decide) h1 ⟨fun c2 => ?_, fun c2 => ?_⟩
    · exact hA (by first | omega | grind)
    · refine x_aload_n (dA D_X12_law 44 rfl) rfl ?_
      refine x_get (v := vI (rd M 67 11)) (dA D_X12_law 45 rfl) fw_RX12_201 (sO_67 hS) rfl ?_
      refine x_if_eqP (tgt := 97) (dA D_X12_law 46 rfl) (by decide) h6 ⟨fun c5 => ?_, fun c5 => ?_⟩
      · exact hA (by first | omega | grind)
      · exact hB (by first | omega | grind)
  · have h := h.2 c
    refine x_aload_n (dA D_X12_law 32 rfl) rfl ?_
    refine x_bipush (dA D_X12_law 33 rfl) (by decide) (by decide) ?_
    obtain ⟨h12, h⟩ := h
    obtain ⟨h13, h⟩ := h
    refine x_callV 11 [vI 59] [] (dA D_X12_law 34 rfl) cw_RX12_254 rfl rfl (Nat.le_of_ble_eq_true rfl) (by decide) rfl hd1 (zk k) (zk n) (sO_67 hS) (S_X12_isSign hS h12 ⟨by decide, by decide⟩ h13 ⟨by decide, by decide⟩ (by omega) ?_) (kI (fun _ _ h => h))
    show X G Y_X12_law d k n 64 [vA 67, vU, vU] [vI (if ((rd M 67 11) = 3) ∧ ((rd M 67 12) = (59 : Int)) then 1 else 0)] M Q
    refine x_if_eqB (tgt := 78) (dA D_X12_law 35 rfl) (by decide) ⟨fun c => ?_, fun c => ?_⟩
    · have h := h.1 c
      refine x_aload_n (dA D_X12_law 41 rfl) rfl ?_
      refine x_get (v := vI (rd M 67 14)) (dA D_X12_law 42 rfl) fw_RX12_181 (sO_67 hS) rfl ?_
      have hA : (((rd M 67 14) ≠ 0) ∨ ((rd M 67 11) = 0)) → X G Y_X12_law d k n 97 [vA 67, vU, vU] [] M Q := by
        intro c22
        have h := h.1 c22
        exact h
      have hB : ¬ (((rd M 67 14) ≠ 0) ∨ ((rd M 67 11) = 0)) → X G Y_X12_law d k n 92 [vA 67, vU, vU] [] M Q := by
        intro c22
        have h := h.2 c22
        refine x_aload_n (dA D_X12_law 47 rfl) rfl ?_
        refine x_iconst (dA D_X12_law 48 rfl) ?_
        refine x_callV 11 [vI 0] [] (dA D_X12_law 49 rfl) cw_RX12_216 rfl rfl (Nat.le_of_ble_eq_true rfl) (by decide) rfl hd1 (zk k) (zk n) (sO_67 hS) h (kU (fun M21 h => ?_))
        obtain ⟨hM21, h⟩ := h
        exact h
      refine x_if_neP (tgt := 97) (dA D_X12_law 43 rfl) (by decide) h1 ⟨fun c14 => ?_, fun c14 => ?_⟩
      · exact hA (by first | omega | grind)
      · refine x_aload_n (dA D_X12_law 44 rfl) rfl ?_
        refine x_get (v := vI (rd M 67 11)) (dA D_X12_law 45 rfl) fw_RX12_201 (sO_67 hS) rfl ?_
        refine x_if_eqP (tgt := 97) (dA D_X12_law 46 rfl) (by decide) h12 ⟨fun c17 => ?_, fun c17 => ?_⟩
        · exact hA (by first | omega | grind)
        · exact hB (by first | omega | grind)
    · have h := h.2 c
      refine x_aload_n (dA D_X12_law 36 rfl) rfl ?_
      refine x_callV 11 [] [] (dA D_X12_law 37 rfl) cw_RX12_185 rfl rfl (Nat.le_of_ble_eq_true rfl) (by decide) rfl hd1 (zk k) (zk n) (sO_67 hS) h (kU (fun M23 h => ?_))
      obtain ⟨hM23, h⟩ := h
      refine x_aload_n (dA D_X12_law 38 rfl) rfl ?_
      refine x_callV 11 [] [] (dA D_X12_law 39 rfl) cw_RX12_313 rfl rfl (Nat.le_of_ble_eq_true rfl) (by decide) rfl hd1 (zk k) (zk n) (sO_67 hM23) h (kU (fun M24 h => ?_))
      obtain ⟨hM24, h⟩ := h
      refine x_goto (tgt := 51) (dA D_X12_law 40 rfl) (by decide) ?_
      exact h
set_option maxRecDepth 100000 in
theorem B_X12_law_97 {G : GG} {d : Nat} {k n : Nat} {M : MM} {Q : PV → MM → Prop} (hd : 2 ≤ d) (hS : Sh M) (h : ∀ M1, M1 = wr M 67 8 0 → Sh M1 → inR (rd M1 67 14) ∧ (((rd M1 67 14) = 0 → ∀ v3, v3 = 60 + (900 * (rd M1 69 1)) → 0 ≤ (v3 + 1) ∧ (v3 + 1) < 5460 ∧ ∀ M6, M6 = wr M1 69 (v3 + 1) (rd M1 67 15) → Sh M6 → X G Y_X12_law d k n 144 [vA 67, vI v3, vI 0] [] M6 Q) ∧ ((rd M1 67 14) ≠ 0 → ∀ M7, M7 = telM M1 (-6 : Int) → Sh M7 → Q (vI (-6 : Int)) M7))) : X G Y_X12_law d k n 97 [vA 67, vU, vU] [] M Q := by
  have hd1 : 1 ≤ d := by omega
  refine x_aload_n (dA D_X12_law 50 rfl) rfl ?_
  refine x_iconst (dA D_X12_law 51 rfl) ?_
  refine x_put (x := 0) (dA D_X12_law 52 rfl) fw_RX12_168 (fun _ _ hc => by cases hc; exact Or.inl rfl) (sO_67 hS) rfl rfl rfl ?_
  refine x_nmM (fun M1 eM1 => ?_)
  have hM1 : Sh M1 := eM1 ▸ (sW_67_8 hS)
  have h := h M1 eM1 hM1
  refine x_aload_n (dA D_X12_law 53 rfl) rfl ?_
  refine x_get (v := vI (rd M1 67 14)) (dA D_X12_law 54 rfl) fw_RX12_181 (sO_67 hM1) rfl ?_
  obtain ⟨h2, h⟩ := h
  refine x_if_eqP (tgt := 116) (dA D_X12_law 55 rfl) (by decide) h2 ⟨fun c => ?_, fun c => ?_⟩
  · have h := h.1 c
    refine x_bipush (dA D_X12_law 60 rfl) (by decide) (by decide) ?_
    refine x_sipush (dA D_X12_law 61 rfl) (by decide) (by decide) ?_
    refine x_aload_n (dA D_X12_law 62 rfl) rfl ?_
    refine x_get (v := vA 69) (dA D_X12_law 63 rfl) fw_RX12_13 (sO_67 hM1) (congrArg (rfV G) (sR_67_3 hM1)) ?_
    refine x_iconst (dA D_X12_law 64 rfl) ?_
    refine x_iald (dA D_X12_law 65 rfl) (sA_69 hM1 (by decide) (by decide)) ?_
    refine x_imul (dA D_X12_law 66 rfl) ?_
    refine x_iadd (dA D_X12_law 67 rfl) ?_
    refine x_nmI (fun v3 ev3 => ?_)
    have h := h v3 ev3
    refine x_istore_n (xs' := [vA 67, vI v3, vU]) (dA D_X12_law 68 rfl) (by decide) rfl ?_
    refine x_aload_n (dA D_X12_law 69 rfl) rfl ?_
    refine x_get (v := vA 69) (dA D_X12_law 70 rfl) fw_RX12_13 (sO_67 hM1) (congrArg (rfV G) (sR_67_3 hM1)) ?_
    refine x_iload_n (dA D_X12_law 71 rfl) rfl ?_
    refine x_iconst (dA D_X12_law 72 rfl) ?_
    refine x_iadd (dA D_X12_law 73 rfl) ?_
    refine x_aload_n (dA D_X12_law 74 rfl) rfl ?_
    refine x_get (v := vI (rd M1 67 15)) (dA D_X12_law 75 rfl) fw_RX12_302 (sO_67 hM1) rfl ?_
    obtain ⟨h4, h⟩ := h
    obtain ⟨h5, h⟩ := h
    refine x_iast (dA D_X12_law 76 rfl) (sA_69 hM1 h4 h5) ?_
    refine x_nmM (fun M6 eM6 => ?_)
    have hM6 : Sh M6 := eM6 ▸ (sW_69 hM1)
    have h := h M6 eM6 hM6
    refine x_iconst (dA D_X12_law 77 rfl) ?_
    refine x_istore_n (xs' := [vA 67, vI v3, vI 0]) (dA D_X12_law 78 rfl) (by decide) rfl ?_
    exact h
  · have h := h.2 c
    refine x_aload_n (dA D_X12_law 56 rfl) rfl ?_
    refine x_bipush (dA D_X12_law 57 rfl) (by decide) (by decide) ?_
    refine x_callV 11 [vI (-6)] [] (dA D_X12_law 58 rfl) cw_RX12_129 rfl rfl (Nat.le_of_ble_eq_true rfl) (by decide) rfl hd1 (zk k) (zk n) (sO_67 hM1) (S_X12_tell hM1 ⟨by decide, by decide, by decide⟩ (by omega) ?_) (kI (fun _ _ h => h))
    refine x_nmM (fun M7 eM7 => ?_)
    have hM7 : Sh M7 := eM7 ▸ (sTel hM1)
    have h := h M7 eM7 hM7
    show X G Y_X12_law d k n 115 [vA 67, vU, vU] [vI (-6 : Int)] M7 Q
    exact x_ireturn (dA D_X12_law 59 rfl) rfl h
set_option maxRecDepth 100000 in
theorem B_X12_law_144 {G : GG} {d : Nat} {k n : Nat} {x1 x2 : Int} {M : MM} {Q : PV → MM → Prop} (hd : 1 ≤ d) (hS : Sh M) (h : inR x2 ∧ inR (8 * (rd M 67 15)) ∧ (((8 * (rd M 67 15)) ≤ x2 → X G Y_X12_law d k n 179 [vA 67, vI x1, vI 0] [] M Q) ∧ (x2 < (8 * (rd M 67 15)) → 0 ≤ x2 ∧ x2 < 96 ∧ 0 ≤ ((x1 + 2) + x2) ∧ ((x1 + 2) + x2) < 5460 ∧ ∀ M7, M7 = wr M 69 ((x1 + 2) + x2) (rd M 73 x2) → Sh M7 → X G Y_X12_law d k n 144 [vA 67, vI x1, vI (x2 + 1)] [] M7 Q))) : X G Y_X12_law d k n 144 [vA 67, vI x1, vI x2] [] M Q := by
  have hd1 : 1 ≤ d := by omega
  refine x_iload_n (dA D_X12_law 79 rfl) rfl ?_
  refine x_bipush (dA D_X12_law 80 rfl) (by decide) (by decide) ?_
  refine x_aload_n (dA D_X12_law 81 rfl) rfl ?_
  refine x_get (v := vI (rd M 67 15)) (dA D_X12_law 82 rfl) fw_RX12_302 (sO_67 hS) rfl ?_
  refine x_imul (dA D_X12_law 83 rfl) ?_
  obtain ⟨h1, h⟩ := h
  obtain ⟨h2, h⟩ := h
  refine x_icmp_geP (tgt := 177) (dA D_X12_law 84 rfl) (by decide) h1 h2 ⟨fun c => ?_, fun c => ?_⟩
  · have h := h.1 c
    refine x_iconst (dA D_X12_law 99 rfl) ?_
    refine x_istore_n (xs' := [vA 67, vI x1, vI 0]) (dA D_X12_law 100 rfl) (by decide) rfl ?_
    exact h
  · have h := h.2 c
    refine x_aload_n (dA D_X12_law 85 rfl) rfl ?_
    refine x_get (v := vA 69) (dA D_X12_law 86 rfl) fw_RX12_13 (sO_67 hS) (congrArg (rfV G) (sR_67_3 hS)) ?_
    refine x_iload_n (dA D_X12_law 87 rfl) rfl ?_
    refine x_iconst (dA D_X12_law 88 rfl) ?_
    refine x_iadd (dA D_X12_law 89 rfl) ?_
    refine x_iload_n (dA D_X12_law 90 rfl) rfl ?_
    refine x_iadd (dA D_X12_law 91 rfl) ?_
    refine x_aload_n (dA D_X12_law 92 rfl) rfl ?_
    refine x_get (v := vA 73) (dA D_X12_law 93 rfl) fw_RX12_30 (sO_67 hS) (congrArg (rfV G) (sR_67_16 hS)) ?_
    refine x_iload_n (dA D_X12_law 94 rfl) rfl ?_
    obtain ⟨h3, h⟩ := h
    obtain ⟨h4, h⟩ := h
    refine x_iald (dA D_X12_law 95 rfl) (sA_73 hS h3 h4) ?_
    obtain ⟨h5, h⟩ := h
    obtain ⟨h6, h⟩ := h
    refine x_iast (dA D_X12_law 96 rfl) (sA_69 hS h5 h6) ?_
    refine x_nmM (fun M7 eM7 => ?_)
    have hM7 : Sh M7 := eM7 ▸ (sW_69 hS)
    have h := h M7 eM7 hM7
    refine x_iinc (xs' := [vA 67, vI x1, vI (x2 + 1)]) (dA D_X12_law 97 rfl) rfl (by decide) rfl ?_
    refine x_goto (tgt := 144) (dA D_X12_law 98 rfl) (by decide) ?_
    exact h
set_option maxRecDepth 100000 in
theorem B_X12_law_179 {G : GG} {d : Nat} {k n : Nat} {x1 x2 : Int} {M : MM} {Q : PV → MM → Prop} (hd : 2 ≤ d) (hS : Sh M) (h : inR x2 ∧ inR (rd M 67 17) ∧ (((rd M 67 17) ≤ x2 → ∀ M3, M3 = wr M 69 1 ((rd M 69 1) + 1) → Sh M3 → (-7 < ((rd M3 69 1) - 1) ∧ inR ((rd M3 69 1) - 1)) ∧ ∀ M5, M5 = telM M3 ((rd M3 69 1) - 1) → Sh M5 → Q (vI ((rd M3 69 1) - 1)) M5) ∧ (x2 < (rd M 67 17) → 0 ≤ x2 ∧ x2 < 400 ∧ 0 ≤ ((x1 + 98) + (2 * x2)) ∧ ((x1 + 98) + (2 * x2)) < 5460 ∧ ∀ M10, M10 = wr M 69 ((x1 + 98) + (2 * x2)) (rd M 74 x2) → Sh M10 → 0 ≤ (((x1 + 98) + (2 * x2)) + 1) ∧ (((x1 + 98) + (2 * x2)) + 1) < 5460 ∧ ∀ M13, M13 = wr M10 69 (((x1 + 98) + (2 * x2)) + 1) (rd M10 75 x2) → Sh M13 → X G Y_X12_law d k n 179 [vA 67, vI x1, vI (x2 + 1)] [] M13 Q))) : X G Y_X12_law d k n 179 [vA 67, vI x1, vI x2] [] M Q := by
  have hd1 : 1 ≤ d := by omega
  refine x_iload_n (dA D_X12_law 101 rfl) rfl ?_
  refine x_aload_n (dA D_X12_law 102 rfl) rfl ?_
  refine x_get (v := vI (rd M 67 17)) (dA D_X12_law 103 rfl) fw_RX12_220 (sO_67 hS) rfl ?_
  obtain ⟨h1, h⟩ := h
  obtain ⟨h2, h⟩ := h
  refine x_icmp_geP (tgt := 233) (dA D_X12_law 104 rfl) (by decide) h1 h2 ⟨fun c => ?_, fun c => ?_⟩
  · have h := h.1 c
    refine x_aload_n (dA D_X12_law 137 rfl) rfl ?_
    refine x_get (v := vA 69) (dA D_X12_law 138 rfl) fw_RX12_13 (sO_67 hS) (congrArg (rfV G) (sR_67_3 hS)) ?_
    refine x_iconst (dA D_X12_law 139 rfl) ?_
    refine x_dup2 (dA D_X12_law 140 rfl) rfl rfl ?_
    refine x_iald (dA D_X12_law 141 rfl) (sA_69 hS (by decide) (by decide)) ?_
    refine x_iconst (dA D_X12_law 142 rfl) ?_
    refine x_iadd (dA D_X12_law 143 rfl) ?_
    refine x_iast (dA D_X12_law 144 rfl) (sA_69 hS (by decide) (by decide)) ?_
    refine x_nmM (fun M3 eM3 => ?_)
    have hM3 : Sh M3 := eM3 ▸ (sW_69 hS)
    have h := h M3 eM3 hM3
    refine x_aload_n (dA D_X12_law 145 rfl) rfl ?_
    refine x_aload_n (dA D_X12_law 146 rfl) rfl ?_
    refine x_get (v := vA 69) (dA D_X12_law 147 rfl) fw_RX12_13 (sO_67 hM3) (congrArg (rfV G) (sR_67_3 hM3)) ?_
    refine x_iconst (dA D_X12_law 148 rfl) ?_
    refine x_iald (dA D_X12_law 149 rfl) (sA_69 hM3 (by decide) (by decide)) ?_
    refine x_iconst (dA D_X12_law 150 rfl) ?_
    refine x_isub (dA D_X12_law 151 rfl) ?_
    obtain ⟨h4, h⟩ := h
    refine x_callV 11 [vI ((rd M3 69 1) - 1)] [] (dA D_X12_law 152 rfl) cw_RX12_129 rfl rfl (Nat.le_of_ble_eq_true rfl) (by decide) rfl hd1 (zk k) (zk n) (sO_67 hM3) (S_X12_tell hM3 h4 (by omega) ?_) (kI (fun _ _ h => h))
    refine x_nmM (fun M5 eM5 => ?_)
    have hM5 : Sh M5 := eM5 ▸ (sTel hM3)
    have h := h M5 eM5 hM5
    show X G Y_X12_law d k n 255 [vA 67, vI x1, vI x2] [vI ((rd M3 69 1) - 1)] M5 Q
    exact x_ireturn (dA D_X12_law 153 rfl) rfl h
  · have h := h.2 c
    refine x_aload_n (dA D_X12_law 105 rfl) rfl ?_
    refine x_get (v := vA 69) (dA D_X12_law 106 rfl) fw_RX12_13 (sO_67 hS) (congrArg (rfV G) (sR_67_3 hS)) ?_
    refine x_iload_n (dA D_X12_law 107 rfl) rfl ?_
    refine x_bipush (dA D_X12_law 108 rfl) (by decide) (by decide) ?_
    refine x_iadd (dA D_X12_law 109 rfl) ?_
    refine x_iconst (dA D_X12_law 110 rfl) ?_
    refine x_iload_n (dA D_X12_law 111 rfl) rfl ?_
    refine x_imul (dA D_X12_law 112 rfl) ?_
    refine x_iadd (dA D_X12_law 113 rfl) ?_
    refine x_aload_n (dA D_X12_law 114 rfl) rfl ?_
    refine x_get (v := vA 74) (dA D_X12_law 115 rfl) fw_RX12_33 (sO_67 hS) (congrArg (rfV G) (sR_67_18 hS)) ?_
    refine x_iload_n (dA D_X12_law 116 rfl) rfl ?_
    obtain ⟨h6, h⟩ := h
    obtain ⟨h7, h⟩ := h
    refine x_iald (dA D_X12_law 117 rfl) (sA_74 hS h6 h7) ?_
    obtain ⟨h8, h⟩ := h
    obtain ⟨h9, h⟩ := h
    refine x_iast (dA D_X12_law 118 rfl) (sA_69 hS h8 h9) ?_
    refine x_nmM (fun M10 eM10 => ?_)
    have hM10 : Sh M10 := eM10 ▸ (sW_69 hS)
    have h := h M10 eM10 hM10
    refine x_aload_n (dA D_X12_law 119 rfl) rfl ?_
    refine x_get (v := vA 69) (dA D_X12_law 120 rfl) fw_RX12_13 (sO_67 hM10) (congrArg (rfV G) (sR_67_3 hM10)) ?_
    refine x_iload_n (dA D_X12_law 121 rfl) rfl ?_
    refine x_bipush (dA D_X12_law 122 rfl) (by decide) (by decide) ?_
    refine x_iadd (dA D_X12_law 123 rfl) ?_
    refine x_iconst (dA D_X12_law 124 rfl) ?_
    refine x_iload_n (dA D_X12_law 125 rfl) rfl ?_
    refine x_imul (dA D_X12_law 126 rfl) ?_
    refine x_iadd (dA D_X12_law 127 rfl) ?_
    refine x_iconst (dA D_X12_law 128 rfl) ?_
    refine x_iadd (dA D_X12_law 129 rfl) ?_
    refine x_aload_n (dA D_X12_law 130 rfl) rfl ?_
    refine x_get (v := vA 75) (dA D_X12_law 131 rfl) fw_RX12_36 (sO_67 hM10) (congrArg (rfV G) (sR_67_19 hM10)) ?_
    refine x_iload_n (dA D_X12_law 132 rfl) rfl ?_
    refine x_iald (dA D_X12_law 133 rfl) (sA_75 hM10 h6 h7) ?_
    obtain ⟨h11, h⟩ := h
    obtain ⟨h12, h⟩ := h
    refine x_iast (dA D_X12_law 134 rfl) (sA_69 hM10 h11 h12) ?_
    refine x_nmM (fun M13 eM13 => ?_)
    have hM13 : Sh M13 := eM13 ▸ (sW_69 hM10)
    have h := h M13 eM13 hM13
    refine x_iinc (xs' := [vA 67, vI x1, vI (x2 + 1)]) (dA D_X12_law 135 rfl) rfl (by decide) rfl ?_
    refine x_goto (tgt := 179) (dA D_X12_law 136 rfl) (by decide) ?_
    exact h
