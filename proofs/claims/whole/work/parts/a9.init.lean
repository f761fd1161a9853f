set_option maxRecDepth 100000 in
theorem B_X0_init_0 {G : GG} {d : Nat} {x0 x1 : Int} {M : MM} {Q : PV → MM → Prop} (hd : 1 ≤ d) (h : 0 ≤ x0 ∧ ∀ M2, M2 = al M 20 7 (fun _ => 0) → okO M2 x0 0 ∧ ∀ M4, M4 = wr M2 x0 1 (mN M) → ∀ M5, M5 = al M4 21 64 (fun _ => 0) → okO M5 x0 0 ∧ ∀ M7, M7 = wr M5 x0 2 (mN M4) → okO M7 x0 0 ∧ ∀ M9, M9 = wr M7 x0 0 x1 → Q vU M9) : X G Y_X0_init d 2 71 0 [vA x0, vA x1] [] M Q := by
  have hd1 : 1 ≤ d := by omega
  refine x_aload_n (dA D_X0_init 0 rfl) rfl ?_
  obtain ⟨h1, h⟩ := h
  refine x_oinit [] (dA D_X0_init 1 rfl) ⟨ml_RX0_3, w_oi, w_oc⟩ (by decide) hd1 h1 ?_
  refine x_aload_n (dA D_X0_init 2 rfl) rfl ?_
  refine x_bipush (dA D_X0_init 3 rfl) (by decide) (by decide) ?_
  refine x_newa (k := 1) (n := 64) (N := 7) (Or.inl ⟨rfl, rfl⟩) (dA D_X0_init 4 rfl) ac_int (by decide) (by decide) ?_
  refine x_nmM (fun M2 eM2 => ?_)
  have h := h M2 eM2
  obtain ⟨h3, h⟩ := h
  refine x_put (x := mN M) (dA D_X0_init 5 rfl) fw_RX0_9 (fun _ _ hc => by cases hc; exact Or.inr ⟨rfl, rfl⟩) h3 rfl (nar_ref _ _ _ (by first | exact Or.inl ⟨_, rfl⟩ | exact Or.inr ⟨_, rfl⟩)) (fit_ref _ _ _ (by first | exact Or.inl ⟨_, rfl⟩ | exact Or.inr ⟨_, rfl⟩)) ?_
  refine x_nmM (fun M4 eM4 => ?_)
  have h := h M4 eM4
  refine x_aload_n (dA D_X0_init 6 rfl) rfl ?_
  refine x_bipush (dA D_X0_init 7 rfl) (by decide) (by decide) ?_
  refine x_newa (k := 0) (n := 0) (N := 64) (Or.inr (Or.inl ⟨rfl, rfl⟩)) (dA D_X0_init 8 rfl) ac_long (by decide) (by decide) ?_
  refine x_nmM (fun M5 eM5 => ?_)
  have h := h M5 eM5
  obtain ⟨h6, h⟩ := h
  refine x_put (x := mN M4) (dA D_X0_init 9 rfl) fw_RX0_15 (fun _ _ hc => by cases hc; exact Or.inr ⟨rfl, rfl⟩) h6 rfl (nar_ref _ _ _ (by first | exact Or.inl ⟨_, rfl⟩ | exact Or.inr ⟨_, rfl⟩)) (fit_ref _ _ _ (by first | exact Or.inl ⟨_, rfl⟩ | exact Or.inr ⟨_, rfl⟩)) ?_
  refine x_nmM (fun M7 eM7 => ?_)
  have h := h M7 eM7
  refine x_aload_n (dA D_X0_init 10 rfl) rfl ?_
  refine x_aload_n (dA D_X0_init 11 rfl) rfl ?_
  obtain ⟨h8, h⟩ := h
  refine x_put (x := x1) (dA D_X0_init 12 rfl) fw_RX0_19 (fun _ _ hc => by cases hc; exact Or.inr ⟨rfl, rfl⟩) h8 rfl (nar_ref _ _ _ (by first | exact Or.inl ⟨_, rfl⟩ | exact Or.inr ⟨_, rfl⟩)) (fit_ref _ _ _ (by first | exact Or.inl ⟨_, rfl⟩ | exact Or.inr ⟨_, rfl⟩)) ?_
  refine x_nmM (fun M9 eM9 => ?_)
  have h := h M9 eM9
  exact x_return (dA D_X0_init 13 rfl) rfl h
theorem C_X0_init {G : GG} {d : Nat} {x0 x1 : Int} {M : MM} {Q : PV → MM → Prop} (h : X G Y_X0_init d 2 71 0 [vA x0, vA x1] [] M Q) : C G Y_X0_init d 2 71 [vA x0, vA x1] M Q := X.entry (by decide) (Nat.le_of_ble_eq_true rfl) rfl rfl rfl h
set_option maxRecDepth 100000 in
theorem B_X7_init_0 {G : GG} {d : Nat} {x0 : Int} {M : MM} {Q : PV → MM → Prop} (hd : 1 ≤ d) (h : 0 ≤ x0 ∧ ∀ M2, M2 = al M 20 401 (fun _ => 0) → okO M2 x0 6 ∧ ∀ M4, M4 = wr M2 x0 0 (mN M) → ∀ M5, M5 = al M4 20 401 (fun _ => 0) → okO M5 x0 6 ∧ ∀ M7, M7 = wr M5 x0 1 (mN M4) → ∀ M8, M8 = al M7 20 12 (fun _ => 0) → okO M8 x0 6 ∧ ∀ M10, M10 = wr M8 x0 5 (mN M7) → ∀ M11, M11 = al M10 20 13 (fun _ => 0) → okO M11 x0 6 ∧ ∀ M13, M13 = wr M11 x0 6 (mN M10) → ∀ M14, M14 = al M13 20 400 (fun _ => 0) → okO M14 x0 6 ∧ ∀ M16, M16 = wr M14 x0 7 (mN M13) → Q vU M16) : X G Y_X7_init d 5 1227 0 [vA x0] [] M Q := by
  have hd1 : 1 ≤ d := by omega
  refine x_aload_n (dA D_X7_init 0 rfl) rfl ?_
  obtain ⟨h1, h⟩ := h
  refine x_oinit [] (dA D_X7_init 1 rfl) ⟨ml_RX7_3, w_oi, w_oc⟩ (by decide) hd1 h1 ?_
  refine x_aload_n (dA D_X7_init 2 rfl) rfl ?_
  refine x_sipush (dA D_X7_init 3 rfl) (by decide) (by decide) ?_
  refine x_newa (k := 4) (n := 826) (N := 401) (Or.inl ⟨rfl, rfl⟩) (dA D_X7_init 4 rfl) ac_int (by decide) (by decide) ?_
  refine x_nmM (fun M2 eM2 => ?_)
  have h := h M2 eM2
  obtain ⟨h3, h⟩ := h
  refine x_put (x := mN M) (dA D_X7_init 5 rfl) fw_RX7_9 (fun _ _ hc => by cases hc; exact Or.inr ⟨rfl, rfl⟩) h3 rfl (nar_ref _ _ _ (by first | exact Or.inl ⟨_, rfl⟩ | exact Or.inr ⟨_, rfl⟩)) (fit_ref _ _ _ (by first | exact Or.inl ⟨_, rfl⟩ | exact Or.inr ⟨_, rfl⟩)) ?_
  refine x_nmM (fun M4 eM4 => ?_)
  have h := h M4 eM4
  refine x_aload_n (dA D_X7_init 6 rfl) rfl ?_
  refine x_sipush (dA D_X7_init 7 rfl) (by decide) (by decide) ?_
  refine x_newa (k := 3) (n := 425) (N := 401) (Or.inl ⟨rfl, rfl⟩) (dA D_X7_init 8 rfl) ac_int (by decide) (by decide) ?_
  refine x_nmM (fun M5 eM5 => ?_)
  have h := h M5 eM5
  obtain ⟨h6, h⟩ := h
  refine x_put (x := mN M4) (dA D_X7_init 9 rfl) fw_RX7_15 (fun _ _ hc => by cases hc; exact Or.inr ⟨rfl, rfl⟩) h6 rfl (nar_ref _ _ _ (by first | exact Or.inl ⟨_, rfl⟩ | exact Or.inr ⟨_, rfl⟩)) (fit_ref _ _ _ (by first | exact Or.inl ⟨_, rfl⟩ | exact Or.inr ⟨_, rfl⟩)) ?_
  refine x_nmM (fun M7 eM7 => ?_)
  have h := h M7 eM7
  refine x_aload_n (dA D_X7_init 10 rfl) rfl ?_
  refine x_bipush (dA D_X7_init 11 rfl) (by decide) (by decide) ?_
  refine x_newa (k := 2) (n := 413) (N := 12) (Or.inl ⟨rfl, rfl⟩) (dA D_X7_init 12 rfl) ac_int (by decide) (by decide) ?_
  refine x_nmM (fun M8 eM8 => ?_)
  have h := h M8 eM8
  obtain ⟨h9, h⟩ := h
  refine x_put (x := mN M7) (dA D_X7_init 13 rfl) fw_RX7_18 (fun _ _ hc => by cases hc; exact Or.inr ⟨rfl, rfl⟩) h9 rfl (nar_ref _ _ _ (by first | exact Or.inl ⟨_, rfl⟩ | exact Or.inr ⟨_, rfl⟩)) (fit_ref _ _ _ (by first | exact Or.inl ⟨_, rfl⟩ | exact Or.inr ⟨_, rfl⟩)) ?_
  refine x_nmM (fun M10 eM10 => ?_)
  have h := h M10 eM10
  refine x_aload_n (dA D_X7_init 14 rfl) rfl ?_
  refine x_bipush (dA D_X7_init 15 rfl) (by decide) (by decide) ?_
  refine x_newa (k := 1) (n := 400) (N := 13) (Or.inl ⟨rfl, rfl⟩) (dA D_X7_init 16 rfl) ac_int (by decide) (by decide) ?_
  refine x_nmM (fun M11 eM11 => ?_)
  have h := h M11 eM11
  obtain ⟨h12, h⟩ := h
  refine x_put (x := mN M10) (dA D_X7_init 17 rfl) fw_RX7_21 (fun _ _ hc => by cases hc; exact Or.inr ⟨rfl, rfl⟩) h12 rfl (nar_ref _ _ _ (by first | exact Or.inl ⟨_, rfl⟩ | exact Or.inr ⟨_, rfl⟩)) (fit_ref _ _ _ (by first | exact Or.inl ⟨_, rfl⟩ | exact Or.inr ⟨_, rfl⟩)) ?_
  refine x_nmM (fun M13 eM13 => ?_)
  have h := h M13 eM13
  refine x_aload_n (dA D_X7_init 18 rfl) rfl ?_
  refine x_sipush (dA D_X7_init 19 rfl) (by decide) (by decide) ?_
  refine x_newa (k := 0) (n := 0) (N := 400) (Or.inl ⟨rfl, rfl⟩) (dA D_X7_init 20 rfl) ac_int (by decide) (by decide) ?_
  refine x_nmM (fun M14 eM14 => ?_)
  have h := h M14 eM14
  obtain ⟨h15, h⟩ := h
  refine x_put (x := mN M13) (dA D_X7_init 21 rfl) fw_RX7_24 (fun _ _ hc => by cases hc; exact Or.inr ⟨rfl, rfl⟩) h15 rfl (nar_ref _ _ _ (by first | exact Or.inl ⟨_, rfl⟩ | exact Or.inr ⟨_, rfl⟩)) (fit_ref _ _ _ (by first | exact Or.inl ⟨_, rfl⟩ | exact Or.inr ⟨_, rfl⟩)) ?_
  refine x_nmM (fun M16 eM16 => ?_)
  have h := h M16 eM16
  exact x_return (dA D_X7_init 22 rfl) rfl h
theorem C_X7_init {G : GG} {d : Nat} {x0 : Int} {M : MM} {Q : PV → MM → Prop} (h : X G Y_X7_init d 5 1227 0 [vA x0] [] M Q) : C G Y_X7_init d 5 1227 [vA x0] M Q := X.entry (by decide) (Nat.le_of_ble_eq_true rfl) rfl rfl rfl h
set_option maxRecDepth 100000 in
theorem B_X8_init_0 {G : GG} {d : Nat} {x0 x1 x2 : Int} {M : MM} {Q : PV → MM → Prop} (hd : 1 ≤ d) (h : 0 ≤ x0 ∧ ∀ M2, M2 = al M 20 161 (fun _ => 0) → okO M2 x0 7 ∧ ∀ M4, M4 = wr M2 x0 2 (mN M) → ∀ M5, M5 = al M4 20 161 (fun _ => 0) → okO M5 x0 7 ∧ ∀ M7, M7 = wr M5 x0 3 (mN M4) → ∀ M8, M8 = al M7 20 161 (fun _ => 0) → okO M8 x0 7 ∧ ∀ M10, M10 = wr M8 x0 4 (mN M7) → ∀ M11, M11 = al M10 20 5940 (fun _ => 0) → okO M11 x0 7 ∧ ∀ M13, M13 = wr M11 x0 5 (mN M10) → okO M13 x0 7 ∧ ∀ M15, M15 = wr M13 x0 6 0 → okO M15 x0 7 ∧ ∀ M17, M17 = wr M15 x0 0 x1 → okO M17 x0 7 ∧ ∀ M19, M19 = wr M17 x0 1 x2 → X G Y_X8_init d 0 0 66 [vA x0, vA x1, vA x2, vI 0, vI 0, vI 0, vI 0, vU, vU, vU] [] M19 Q) : X G Y_X8_init d 4 6423 0 [vA x0, vA x1, vA x2, vU, vU, vU, vU, vU, vU, vU] [] M Q := by
  have hd1 : 1 ≤ d := by omega
  refine x_aload_n (dA D_X8_init 0 rfl) rfl ?_
  obtain ⟨h1, h⟩ := h
  refine x_oinit [] (dA D_X8_init 1 rfl) ⟨ml_RX8_3, w_oi, w_oc⟩ (by decide) hd1 h1 ?_
  refine x_aload_n (dA D_X8_init 2 rfl) rfl ?_
  refine x_sipush (dA D_X8_init 3 rfl) (by decide) (by decide) ?_
  refine x_newa (k := 3) (n := 6262) (N := 161) (Or.inl ⟨rfl, rfl⟩) (dA D_X8_init 4 rfl) ac_int (by decide) (by decide) ?_
  refine x_nmM (fun M2 eM2 => ?_)
  have h := h M2 eM2
  obtain ⟨h3, h⟩ := h
  refine x_put (x := mN M) (dA D_X8_init 5 rfl) fw_RX8_11 (fun _ _ hc => by cases hc; exact Or.inr ⟨rfl, rfl⟩) h3 rfl (nar_ref _ _ _ (by first | exact Or.inl ⟨_, rfl⟩ | exact Or.inr ⟨_, rfl⟩)) (fit_ref _ _ _ (by first | exact Or.inl ⟨_, rfl⟩ | exact Or.inr ⟨_, rfl⟩)) ?_
  refine x_nmM (fun M4 eM4 => ?_)
  have h := h M4 eM4
  refine x_aload_n (dA D_X8_init 6 rfl) rfl ?_
  refine x_sipush (dA D_X8_init 7 rfl) (by decide) (by decide) ?_
  refine x_newa (k := 2) (n := 6101) (N := 161) (Or.inl ⟨rfl, rfl⟩) (dA D_X8_init 8 rfl) ac_int (by decide) (by decide) ?_
  refine x_nmM (fun M5 eM5 => ?_)
  have h := h M5 eM5
  obtain ⟨h6, h⟩ := h
  refine x_put (x := mN M4) (dA D_X8_init 9 rfl) fw_RX8_15 (fun _ _ hc => by cases hc; exact Or.inr ⟨rfl, rfl⟩) h6 rfl (nar_ref _ _ _ (by first | exact Or.inl ⟨_, rfl⟩ | exact Or.inr ⟨_, rfl⟩)) (fit_ref _ _ _ (by first | exact Or.inl ⟨_, rfl⟩ | exact Or.inr ⟨_, rfl⟩)) ?_
  refine x_nmM (fun M7 eM7 => ?_)
  have h := h M7 eM7
  refine x_aload_n (dA D_X8_init 10 rfl) rfl ?_
  refine x_sipush (dA D_X8_init 11 rfl) (by decide) (by decide) ?_
  refine x_newa (k := 1) (n := 5940) (N := 161) (Or.inl ⟨rfl, rfl⟩) (dA D_X8_init 12 rfl) ac_int (by decide) (by decide) ?_
  refine x_nmM (fun M8 eM8 => ?_)
  have h := h M8 eM8
  obtain ⟨h9, h⟩ := h
  refine x_put (x := mN M7) (dA D_X8_init 13 rfl) fw_RX8_18 (fun _ _ hc => by cases hc; exact Or.inr ⟨rfl, rfl⟩) h9 rfl (nar_ref _ _ _ (by first | exact Or.inl ⟨_, rfl⟩ | exact Or.inr ⟨_, rfl⟩)) (fit_ref _ _ _ (by first | exact Or.inl ⟨_, rfl⟩ | exact Or.inr ⟨_, rfl⟩)) ?_
  refine x_nmM (fun M10 eM10 => ?_)
  have h := h M10 eM10
  refine x_aload_n (dA D_X8_init 14 rfl) rfl ?_
  refine x_sipush (dA D_X8_init 15 rfl) (by decide) (by decide) ?_
  refine x_newa (k := 0) (n := 0) (N := 5940) (Or.inl ⟨rfl, rfl⟩) (dA D_X8_init 16 rfl) ac_int (by decide) (by decide) ?_
  refine x_nmM (fun M11 eM11 => ?_)
  have h := h M11 eM11
  obtain ⟨h12, h⟩ := h
  refine x_put (x := mN M10) (dA D_X8_init 17 rfl) fw_RX8_21 (fun _ _ hc => by cases hc; exact Or.inr ⟨rfl, rfl⟩) h12 rfl (nar_ref _ _ _ (by first | exact Or.inl ⟨_, rfl⟩ | exact Or.inr ⟨_, rfl⟩)) (fit_ref _ _ _ (by first | exact Or.inl ⟨_, rfl⟩ | exact Or.inr ⟨_, rfl⟩)) ?_
  refine x_nmM (fun M13 eM13 => ?_)
  have h := h M13 eM13
  refine x_aload_n (dA D_X8_init 18 rfl) rfl ?_
  refine x_iconst (dA D_X8_init 19 rfl) ?_
  obtain ⟨h14, h⟩ := h
  refine x_put (x := 0) (dA D_X8_init 20 rfl) fw_RX8_24 (fun _ _ hc => by cases hc; exact Or.inr ⟨rfl, rfl⟩) h14 rfl (z_nar (by decide)) (z_fit (by decide)) ?_
  refine x_nmM (fun M15 eM15 => ?_)
  have h := h M15 eM15
  refine x_aload_n (dA D_X8_init 21 rfl) rfl ?_
  refine x_aload_n (dA D_X8_init 22 rfl) rfl ?_
  obtain ⟨h16, h⟩ := h
  refine x_put (x := x1) (dA D_X8_init 23 rfl) fw_RX8_28 (fun _ _ hc => by cases hc; exact Or.inr ⟨rfl, rfl⟩) h16 rfl (nar_ref _ _ _ (by first | exact Or.inl ⟨_, rfl⟩ | exact Or.inr ⟨_, rfl⟩)) (fit_ref _ _ _ (by first | exact Or.inl ⟨_, rfl⟩ | exact Or.inr ⟨_, rfl⟩)) ?_
  refine x_nmM (fun M17 eM17 => ?_)
  have h := h M17 eM17
  refine x_aload_n (dA D_X8_init 24 rfl) rfl ?_
  refine x_aload_n (dA D_X8_init 25 rfl) rfl ?_
  obtain ⟨h18, h⟩ := h
  refine x_put (x := x2) (dA D_X8_init 26 rfl) fw_RX8_32 (fun _ _ hc => by cases hc; exact Or.inr ⟨rfl, rfl⟩) h18 rfl (nar_ref _ _ _ (by first | exact Or.inl ⟨_, rfl⟩ | exact Or.inr ⟨_, rfl⟩)) (fit_ref _ _ _ (by first | exact Or.inl ⟨_, rfl⟩ | exact Or.inr ⟨_, rfl⟩)) ?_
  refine x_nmM (fun M19 eM19 => ?_)
  have h := h M19 eM19
  refine x_iconst (dA D_X8_init 27 rfl) ?_
  refine x_istore_n (xs' := [vA x0, vA x1, vA x2, vI 0, vU, vU, vU, vU, vU, vU]) (dA D_X8_init 28 rfl) (by decide) rfl ?_
  refine x_iconst (dA D_X8_init 29 rfl) ?_
  refine x_istore (xs' := [vA x0, vA x1, vA x2, vI 0, vI 0, vU, vU, vU, vU, vU]) (dA D_X8_init 30 rfl) (by decide) rfl ?_
  refine x_iconst (dA D_X8_init 31 rfl) ?_
  refine x_istore (xs' := [vA x0, vA x1, vA x2, vI 0, vI 0, vI 0, vU, vU, vU, vU]) (dA D_X8_init 32 rfl) (by decide) rfl ?_
  refine x_iconst (dA D_X8_init 33 rfl) ?_
  refine x_istore (xs' := [vA x0, vA x1, vA x2, vI 0, vI 0, vI 0, vI 0, vU, vU, vU]) (dA D_X8_init 34 rfl) (by decide) rfl ?_
  exact X.wide (Nat.le_of_ble_eq_true rfl) (Nat.le_of_ble_eq_true rfl) h
theorem C_X8_init {G : GG} {d : Nat} {x0 x1 x2 : Int} {M : MM} {Q : PV → MM → Prop} (h : X G Y_X8_init d 4 6423 0 [vA x0, vA x1, vA x2, vU, vU, vU, vU, vU, vU, vU] [] M Q) : C G Y_X8_init d 4 6423 [vA x0, vA x1, vA x2] M Q := X.entry (by decide) (Nat.le_of_ble_eq_true rfl) rfl rfl rfl h
set_option maxRecDepth 100000 in
theorem B_X8_init_66 {G : GG} {d : Nat} {x0 x1 x2 x3 x4 x5 x6 : Int} {M : MM} {Q : PV → MM → Prop} (hd : 2 ≤ d) (h : inR x6 ∧ ((32 ≤ x6 → Q vU M) ∧ (x6 < 32 → 0 ≤ x6 ∧ x6 < 32 ∧ ∀ v4, v4 = pop x6 → X G Y_X8_init d 0 0 83 [vA x0, vA x1, vA x2, vI x3, vI x4, vI x5, vI x6, vI v4, vI (-1), vU] [] M Q))) : X G Y_X8_init d 0 0 66 [vA x0, vA x1, vA x2, vI x3, vI x4, vI x5, vI x6, vU, vU, vU] [] M Q := by
  have hd1 : 1 ≤ d := by omega
  refine x_iload (dA D_X8_init 35 rfl) rfl ?_
  refine x_bipush (dA D_X8_init 36 rfl) (by decide) (by decide) ?_
  obtain ⟨h1, h⟩ := h
  refine x_icmp_geP (tgt := 208) (dA D_X8_init 37 rfl) (by decide) h1 ⟨by decide, by decide⟩ ⟨fun c => ?_, fun c => ?_⟩
  · have h := h.1 c
    exact x_return (dA D_X8_init 108 rfl) rfl h
  · have h := h.2 c
    refine x_iload (dA D_X8_init 38 rfl) rfl ?_
    obtain ⟨h2, h⟩ := h
    obtain ⟨h3, h⟩ := h
    refine x_callS [vI x6] [] (dA D_X8_init 39 rfl) cw_RX8_36 rfl rfl (Nat.le_of_ble_eq_true rfl) hd1 (k := 0) (n := 0) (by decide) (by decide) (S_bitCount h2 h3 (by omega) ?_) (kI (fun _ _ h => h))
    show X G Y_X8_init d 0 0 78 [vA x0, vA x1, vA x2, vI x3, vI x4, vI x5, vI x6, vU, vU, vU] [vI (pop x6)] M Q
    refine x_nmI (fun v4 ev4 => ?_)
    have h := h v4 ev4
    refine x_istore (xs' := [vA x0, vA x1, vA x2, vI x3, vI x4, vI x5, vI x6, vI v4, vU, vU]) (dA D_X8_init 40 rfl) (by decide) rfl ?_
    refine x_iconst (dA D_X8_init 41 rfl) ?_
    refine x_istore (xs' := [vA x0, vA x1, vA x2, vI x3, vI x4, vI x5, vI x6, vI v4, vI (-1), vU]) (dA D_X8_init 42 rfl) (by decide) rfl ?_
    exact X.wide (Nat.le_of_ble_eq_true rfl) (Nat.le_of_ble_eq_true rfl) h
set_option maxRecDepth 100000 in
theorem B_X8_init_83 {G : GG} {d : Nat} {x0 x1 x2 x3 x4 x5 x6 x7 x8 : Int} {M : MM} {Q : PV → MM → Prop} (hd : 2 ≤ d) (h : inR x8 ∧ ((5 ≤ x8 → X G Y_X8_init d 0 0 66 [vA x0, vA x1, vA x2, vI x3, vI x4, vI x5, vI (x6 + 1), vU, vU, vU] [] M Q) ∧ (x8 < 5 → inR x6 ∧ ∀ v20, v20 = (if ((x8 ≠ (-1)) ∧ ((iAnd (iShr x6 x8) 1) = 1)) ∨ ((x8 = (-1)) ∧ (x6 = 0)) then 1 else 0) → inR v20 ∧ ((v20 = 0 → X G Y_X8_init d 0 0 83 [vA x0, vA x1, vA x2, vI x3, vI x4, vI x5, vI x6, vI x7, vI (x8 + 1), vU] [] M Q) ∧ (v20 ≠ 0 → okO M x0 7 ∧ okA M (rd M x0 2) 20 (((x6 * 5) + x8) + 1) ∧ ∀ M24, M24 = wr M (rd M x0 2) (((x6 * 5) + x8) + 1) x3 → okO M24 x0 7 ∧ okA M24 (rd M24 x0 3) 20 (((x6 * 5) + x8) + 1) ∧ ∀ M27, M27 = wr M24 (rd M24 x0 3) (((x6 * 5) + x8) + 1) x4 → okO M27 x0 7 ∧ okA M27 (rd M27 x0 4) 20 (((x6 * 5) + x8) + 1) ∧ ∀ M30, M30 = wr M27 (rd M27 x0 4) (((x6 * 5) + x8) + 1) x5 → ∀ v31, v31 = x3 + (5 - x7) → 0 ≤ x7 ∧ x7 < 6 ∧ ∀ v34, v34 = x4 + ((limF (Int.toNat x7)) * 36) → X G Y_X8_init d 0 0 83 [vA x0, vA x1, vA x2, vI v31, vI v34, vI (x5 + 36), vI x6, vI x7, vI (x8 + 1), vU] [] M30 Q))))) : X G Y_X8_init d 0 0 83 [vA x0, vA x1, vA x2, vI x3, vI x4, vI x5, vI x6, vI x7, vI x8, vU] [] M Q := by
  have hd1 : 1 ≤ d := by omega
  refine x_iload (dA D_X8_init 43 rfl) rfl ?_
  refine x_iconst (dA D_X8_init 44 rfl) ?_
  obtain ⟨h1, h⟩ := h
  refine x_icmp_geP (tgt := 202) (dA D_X8_init 45 rfl) (by decide) h1 ⟨by decide, by decide⟩ ⟨fun c => ?_, fun c => ?_⟩
  · have h := h.1 c
    refine x_iinc (xs' := [vA x0, vA x1, vA x2, vI x3, vI x4, vI x5, vI (x6 + 1), vI x7, vI x8, vU]) (dA D_X8_init 106 rfl) rfl (by decide) rfl ?_
    refine x_goto (tgt := 66) (dA D_X8_init 107 rfl) (by decide) ?_
    refine X.weak (xs' := [vA x0, vA x1, vA x2, vI x3, vI x4, vI x5, vI (x6 + 1), vU, vU, vU]) ⟨Or.inl rfl, Or.inl rfl, Or.inl rfl, Or.inl rfl, Or.inl rfl, Or.inl rfl, Or.inl rfl, Or.inr rfl, Or.inr rfl, Or.inl rfl, trivial⟩ ?_
    exact X.wide (Nat.le_of_ble_eq_true rfl) (Nat.le_of_ble_eq_true rfl) h
  · have h := h.2 c
    refine x_iload (dA D_X8_init 46 rfl) rfl ?_
    refine x_iconst (dA D_X8_init 47 rfl) ?_
    obtain ⟨h15, h⟩ := h
    have hJ : X G Y_X8_init d 0 0 124 [vA x0, vA x1, vA x2, vI x3, vI x4, vI x5, vI x6, vI x7, vI x8, vU] [vI (if ((x8 ≠ (-1)) ∧ ((iAnd (iShr x6 x8) 1) = 1)) ∨ ((x8 = (-1)) ∧ (x6 = 0)) then 1 else 0)] M Q := by
      refine x_nmI (fun v20 ev20 => ?_)
      have h := h v20 ev20
      refine x_istore (xs' := [vA x0, vA x1, vA x2, vI x3, vI x4, vI x5, vI x6, vI x7, vI x8, vI v20]) (dA D_X8_init 65 rfl) (by decide) rfl ?_
      refine x_iload (dA D_X8_init 66 rfl) rfl ?_
      obtain ⟨h21, h⟩ := h
      refine x_if_eqP (tgt := 196) (dA D_X8_init 67 rfl) (by decide) h21 ⟨fun c => ?_, fun c => ?_⟩
      · have h := h.1 c
        refine x_iinc (xs' := [vA x0, vA x1, vA x2, vI x3, vI x4, vI x5, vI x6, vI x7, vI (x8 + 1), vI v20]) (dA D_X8_init 104 rfl) rfl (by decide) rfl ?_
        refine x_goto (tgt := 83) (dA D_X8_init 105 rfl) (by decide) ?_
        refine X.weak (xs' := [vA x0, vA x1, vA x2, vI x3, vI x4, vI x5, vI x6, vI x7, vI (x8 + 1), vU]) ⟨Or.inl rfl, Or.inl rfl, Or.inl rfl, Or.inl rfl, Or.inl rfl, Or.inl rfl, Or.inl rfl, Or.inl rfl, Or.inl rfl, Or.inr rfl, trivial⟩ ?_
        exact X.wide (Nat.le_of_ble_eq_true rfl) (Nat.le_of_ble_eq_true rfl) h
      · have h := h.2 c
        refine x_aload_n (dA D_X8_init 68 rfl) rfl ?_
        obtain ⟨h22, h⟩ := h
        refine x_get (v := vA (rd M x0 2)) (dA D_X8_init 69 rfl) fw_RX8_11 h22 rfl ?_
        refine x_iload (dA D_X8_init 70 rfl) rfl ?_
        refine x_iload (dA D_X8_init 71 rfl) rfl ?_
        refine x_callS [vI x6, vI x8] [vA (rd M x0 2)] (dA D_X8_init 72 rfl) cw_RX8_42 rfl rfl (Nat.le_of_ble_eq_true rfl) hd1 (k := 0) (n := 0) (by decide) (by decide) (S_X8_nodeOf  (by omega) ?_) (kI (fun _ _ h => h))
        show X G Y_X8_init d 0 0 142 [vA x0, vA x1, vA x2, vI x3, vI x4, vI x5, vI x6, vI x7, vI x8, vI v20] [vI (((x6 * 5) + x8) + 1), vA (rd M x0 2)] M Q
        refine x_iload_n (dA D_X8_init 73 rfl) rfl ?_
        obtain ⟨h23, h⟩ := h
        refine x_iast (dA D_X8_init 74 rfl) h23 ?_
        refine x_nmM (fun M24 eM24 => ?_)
        have h := h M24 eM24
        refine x_aload_n (dA D_X8_init 75 rfl) rfl ?_
        obtain ⟨h25, h⟩ := h
        refine x_get (v := vA (rd M24 x0 3)) (dA D_X8_init 76 rfl) fw_RX8_15 h25 rfl ?_
        refine x_iload (dA D_X8_init 77 rfl) rfl ?_
        refine x_iload (dA D_X8_init 78 rfl) rfl ?_
        refine x_callS [vI x6, vI x8] [vA (rd M24 x0 3)] (dA D_X8_init 79 rfl) cw_RX8_42 rfl rfl (Nat.le_of_ble_eq_true rfl) hd1 (k := 0) (n := 0) (by decide) (by decide) (S_X8_nodeOf  (by omega) ?_) (kI (fun _ _ h => h))
        show X G Y_X8_init d 0 0 155 [vA x0, vA x1, vA x2, vI x3, vI x4, vI x5, vI x6, vI x7, vI x8, vI v20] [vI (((x6 * 5) + x8) + 1), vA (rd M24 x0 3)] M24 Q
        refine x_iload (dA D_X8_init 80 rfl) rfl ?_
        obtain ⟨h26, h⟩ := h
        refine x_iast (dA D_X8_init 81 rfl) h26 ?_
        refine x_nmM (fun M27 eM27 => ?_)
        have h := h M27 eM27
        refine x_aload_n (dA D_X8_init 82 rfl) rfl ?_
        obtain ⟨h28, h⟩ := h
        refine x_get (v := vA (rd M27 x0 4)) (dA D_X8_init 83 rfl) fw_RX8_18 h28 rfl ?_
        refine x_iload (dA D_X8_init 84 rfl) rfl ?_
        refine x_iload (dA D_X8_init 85 rfl) rfl ?_
        refine x_callS [vI x6, vI x8] [vA (rd M27 x0 4)] (dA D_X8_init 86 rfl) cw_RX8_42 rfl rfl (Nat.le_of_ble_eq_true rfl) hd1 (k := 0) (n := 0) (by decide) (by decide) (S_X8_nodeOf  (by omega) ?_) (kI (fun _ _ h => h))
        show X G Y_X8_init d 0 0 169 [vA x0, vA x1, vA x2, vI x3, vI x4, vI x5, vI x6, vI x7, vI x8, vI v20] [vI (((x6 * 5) + x8) + 1), vA (rd M27 x0 4)] M27 Q
        refine x_iload (dA D_X8_init 87 rfl) rfl ?_
        obtain ⟨h29, h⟩ := h
        refine x_iast (dA D_X8_init 88 rfl) h29 ?_
        refine x_nmM (fun M30 eM30 => ?_)
        have h := h M30 eM30
        refine x_iload_n (dA D_X8_init 89 rfl) rfl ?_
        refine x_iconst (dA D_X8_init 90 rfl) ?_
        refine x_iload (dA D_X8_init 91 rfl) rfl ?_
        refine x_isub (dA D_X8_init 92 rfl) ?_
        refine x_iadd (dA D_X8_init 93 rfl) ?_
        refine x_nmI (fun v31 ev31 => ?_)
        have h := h v31 ev31
        refine x_istore_n (xs' := [vA x0, vA x1, vA x2, vI v31, vI x4, vI x5, vI x6, vI x7, vI x8, vI v20]) (dA D_X8_init 94 rfl) (by decide) rfl ?_
        refine x_iload (dA D_X8_init 95 rfl) rfl ?_
        refine x_getsL (dA D_X8_init 96 rfl) sf_RX8_46 ?_
        refine x_iload (dA D_X8_init 97 rfl) rfl ?_
        obtain ⟨h32, h⟩ := h
        obtain ⟨h33, h⟩ := h
        refine x_tabL (dA D_X8_init 98 rfl) h32 h33 ?_
        refine x_bipush (dA D_X8_init 99 rfl) (by decide) (by decide) ?_
        refine x_imul (dA D_X8_init 100 rfl) ?_
        refine x_iadd (dA D_X8_init 101 rfl) ?_
        refine x_nmI (fun v34 ev34 => ?_)
        have h := h v34 ev34
        refine x_istore (xs' := [vA x0, vA x1, vA x2, vI v31, vI v34, vI x5, vI x6, vI x7, vI x8, vI v20]) (dA D_X8_init 102 rfl) (by decide) rfl ?_
        refine x_iinc (xs' := [vA x0, vA x1, vA x2, vI v31, vI v34, vI (x5 + 36), vI x6, vI x7, vI x8, vI v20]) (dA D_X8_init 103 rfl) rfl (by decide) rfl ?_
        refine x_iinc (xs' := [vA x0, vA x1, vA x2, vI v31, vI v34, vI (x5 + 36), vI x6, vI x7, vI (x8 + 1), vI v20]) (dA D_X8_init 104 rfl) rfl (by decide) rfl ?_
        refine x_goto (tgt := 83) (dA D_X8_init 105 rfl) (by decide) ?_
        refine X.weak (xs' := [vA x0, vA x1, vA x2, vI v31, vI v34, vI (x5 + 36), vI x6, vI x7, vI (x8 + 1), vU]) ⟨Or.inl rfl, Or.inl rfl, Or.inl rfl, Or.inl rfl, Or.inl rfl, Or.inl rfl, Or.inl rfl, Or.inl rfl, Or.inl rfl, Or.inr rfl, trivial⟩ ?_
        exact X.wide (Nat.le_of_ble_eq_true rfl) (Nat.le_of_ble_eq_true rfl) h
    refine x_icmp_neP (tgt := 108) (dA D_X8_init 48 rfl) (by decide) h1 ⟨by decide, by decide⟩ ⟨fun c2 => ?_, fun c2 => ?_⟩
    · refine x_iload (dA D_X8_init 55 rfl) rfl ?_
      refine x_iload (dA D_X8_init 56 rfl) rfl ?_
      refine x_ishr (dA D_X8_init 57 rfl) ?_
      refine x_iconst (dA D_X8_init 58 rfl) ?_
      refine x_iand (dA D_X8_init 59 rfl) ?_
      refine x_iconst (dA D_X8_init 60 rfl) ?_
      refine x_icmp_neP (tgt := 123) (dA D_X8_init 61 rfl) (by decide) (inR_iAnd _ _) ⟨by decide, by decide⟩ ⟨fun c9 => ?_, fun c9 => ?_⟩
      · refine x_iconst (dA D_X8_init 64 rfl) ?_
        have e0 : (if ((x8 ≠ (-1)) ∧ ((iAnd (iShr x6 x8) 1) = 1)) ∨ ((x8 = (-1)) ∧ (x6 = 0)) then (1 : Int) else 0) = 0 := if_neg (by first | omega | grind)
        rw [e0] at hJ
        exact hJ
      · refine x_iconst (dA D_X8_init 62 rfl) ?_
        refine x_goto (tgt := 124) (dA D_X8_init 63 rfl) (by decide) ?_
        have e0 : (if ((x8 ≠ (-1)) ∧ ((iAnd (iShr x6 x8) 1) = 1)) ∨ ((x8 = (-1)) ∧ (x6 = 0)) then (1 : Int) else 0) = 1 := if_pos (by first | omega | grind)
        rw [e0] at hJ
        exact hJ
    · refine x_iload (dA D_X8_init 49 rfl) rfl ?_
      refine x_if_neP (tgt := 104) (dA D_X8_init 50 rfl) (by decide) h15 ⟨fun c14 => ?_, fun c14 => ?_⟩
      · refine x_iconst (dA D_X8_init 53 rfl) ?_
        refine x_goto (tgt := 124) (dA D_X8_init 54 rfl) (by decide) ?_
        have e0 : (if ((x8 ≠ (-1)) ∧ ((iAnd (iShr x6 x8) 1) = 1)) ∨ ((x8 = (-1)) ∧ (x6 = 0)) then (1 : Int) else 0) = 0 := if_neg (by first | omega | grind)
        rw [e0] at hJ
        exact hJ
      · refine x_iconst (dA D_X8_init 51 rfl) ?_
        refine x_goto (tgt := 124) (dA D_X8_init 52 rfl) (by decide) ?_
        have e0 : (if ((x8 ≠ (-1)) ∧ ((iAnd (iShr x6 x8) 1) = 1)) ∨ ((x8 = (-1)) ∧ (x6 = 0)) then (1 : Int) else 0) = 1 := if_pos (by first | omega | grind)
        rw [e0] at hJ
        exact hJ
set_option maxRecDepth 100000 in
theorem B_X9_init_0 {G : GG} {d : Nat} {x0 x1 x2 x3 : Int} {M : MM} {Q : PV → MM → Prop} (hd : 1 ≤ d) (h : 0 ≤ x0 ∧ ∀ M2, M2 = al M 21 18504 (fun _ => 0) → okO M2 x0 8 ∧ ∀ M4, M4 = wr M2 x0 3 (mN M) → ∀ M5, M5 = al M4 20 2916 (fun _ => 0) → okO M5 x0 8 ∧ ∀ M7, M7 = wr M5 x0 4 (mN M4) → ∀ M8, M8 = al M7 21 14 (fun _ => 0) → okO M8 x0 8 ∧ ∀ M10, M10 = wr M8 x0 5 (mN M7) → ∀ M11, M11 = al M10 21 14 (fun _ => 0) → okO M11 x0 8 ∧ ∀ M13, M13 = wr M11 x0 6 (mN M10) → ∀ M14, M14 = al M13 21 6 (fun _ => 0) → okO M14 x0 8 ∧ ∀ M16, M16 = wr M14 x0 7 (mN M13) → ∀ M17, M17 = al M16 21 6 (fun _ => 0) → okO M17 x0 8 ∧ ∀ M19, M19 = wr M17 x0 8 (mN M16) → okO M19 x0 8 ∧ ∀ M21, M21 = wr M19 x0 9 1 → okO M21 x0 8 ∧ ∀ M23, M23 = wr M21 x0 10 4 → okO M23 x0 8 ∧ ∀ M25, M25 = wr M23 x0 11 8 → okO M25 x0 8 ∧ ∀ M27, M27 = wr M25 x0 0 x1 → okO M27 x0 8 ∧ ∀ M29, M29 = wr M27 x0 1 x2 → okO M29 x0 8 ∧ ∀ M31, M31 = wr M29 x0 2 x3 → Q vU M31) : X G Y_X9_init d 6 21460 0 [vA x0, vA x1, vA x2, vA x3] [] M Q := by
  have hd1 : 1 ≤ d := by omega
  refine x_aload_n (dA D_X9_init 0 rfl) rfl ?_
  obtain ⟨h1, h⟩ := h
  refine x_oinit [] (dA D_X9_init 1 rfl) ⟨ml_RX9_3, w_oi, w_oc⟩ (by decide) hd1 h1 ?_
  refine x_aload_n (dA D_X9_init 2 rfl) rfl ?_
  refine x_sipush (dA D_X9_init 3 rfl) (by decide) (by decide) ?_
  refine x_newa (k := 5) (n := 2956) (N := 18504) (Or.inr (Or.inl ⟨rfl, rfl⟩)) (dA D_X9_init 4 rfl) ac_long (by decide) (by decide) ?_
  refine x_nmM (fun M2 eM2 => ?_)
  have h := h M2 eM2
  obtain ⟨h3, h⟩ := h
  refine x_put (x := mN M) (dA D_X9_init 5 rfl) fw_RX9_11 (fun _ _ hc => by cases hc; exact Or.inr ⟨rfl, rfl⟩) h3 rfl (nar_ref _ _ _ (by first | exact Or.inl ⟨_, rfl⟩ | exact Or.inr ⟨_, rfl⟩)) (fit_ref _ _ _ (by first | exact Or.inl ⟨_, rfl⟩ | exact Or.inr ⟨_, rfl⟩)) ?_
  refine x_nmM (fun M4 eM4 => ?_)
  have h := h M4 eM4
  refine x_aload_n (dA D_X9_init 6 rfl) rfl ?_
  refine x_sipush (dA D_X9_init 7 rfl) (by decide) (by decide) ?_
  refine x_newa (k := 4) (n := 40) (N := 2916) (Or.inl ⟨rfl, rfl⟩) (dA D_X9_init 8 rfl) ac_int (by decide) (by decide) ?_
  refine x_nmM (fun M5 eM5 => ?_)
  have h := h M5 eM5
  obtain ⟨h6, h⟩ := h
  refine x_put (x := mN M4) (dA D_X9_init 9 rfl) fw_RX9_17 (fun _ _ hc => by cases hc; exact Or.inr ⟨rfl, rfl⟩) h6 rfl (nar_ref _ _ _ (by first | exact Or.inl ⟨_, rfl⟩ | exact Or.inr ⟨_, rfl⟩)) (fit_ref _ _ _ (by first | exact Or.inl ⟨_, rfl⟩ | exact Or.inr ⟨_, rfl⟩)) ?_
  refine x_nmM (fun M7 eM7 => ?_)
  have h := h M7 eM7
  refine x_aload_n (dA D_X9_init 10 rfl) rfl ?_
  refine x_bipush (dA D_X9_init 11 rfl) (by decide) (by decide) ?_
  refine x_newa (k := 3) (n := 26) (N := 14) (Or.inr (Or.inl ⟨rfl, rfl⟩)) (dA D_X9_init 12 rfl) ac_long (by decide) (by decide) ?_
  refine x_nmM (fun M8 eM8 => ?_)
  have h := h M8 eM8
  obtain ⟨h9, h⟩ := h
  refine x_put (x := mN M7) (dA D_X9_init 13 rfl) fw_RX9_23 (fun _ _ hc => by cases hc; exact Or.inr ⟨rfl, rfl⟩) h9 rfl (nar_ref _ _ _ (by first | exact Or.inl ⟨_, rfl⟩ | exact Or.inr ⟨_, rfl⟩)) (fit_ref _ _ _ (by first | exact Or.inl ⟨_, rfl⟩ | exact Or.inr ⟨_, rfl⟩)) ?_
  refine x_nmM (fun M10 eM10 => ?_)
  have h := h M10 eM10
  refine x_aload_n (dA D_X9_init 14 rfl) rfl ?_
  refine x_bipush (dA D_X9_init 15 rfl) (by decide) (by decide) ?_
  refine x_newa (k := 2) (n := 12) (N := 14) (Or.inr (Or.inl ⟨rfl, rfl⟩)) (dA D_X9_init 16 rfl) ac_long (by decide) (by decide) ?_
  refine x_nmM (fun M11 eM11 => ?_)
  have h := h M11 eM11
  obtain ⟨h12, h⟩ := h
  refine x_put (x := mN M10) (dA D_X9_init 17 rfl) fw_RX9_26 (fun _ _ hc => by cases hc; exact Or.inr ⟨rfl, rfl⟩) h12 rfl (nar_ref _ _ _ (by first | exact Or.inl ⟨_, rfl⟩ | exact Or.inr ⟨_, rfl⟩)) (fit_ref _ _ _ (by first | exact Or.inl ⟨_, rfl⟩ | exact Or.inr ⟨_, rfl⟩)) ?_
  refine x_nmM (fun M13 eM13 => ?_)
  have h := h M13 eM13
  refine x_aload_n (dA D_X9_init 18 rfl) rfl ?_
  refine x_bipush (dA D_X9_init 19 rfl) (by decide) (by decide) ?_
  refine x_newa (k := 1) (n := 6) (N := 6) (Or.inr (Or.inl ⟨rfl, rfl⟩)) (dA D_X9_init 20 rfl) ac_long (by decide) (by decide) ?_
  refine x_nmM (fun M14 eM14 => ?_)
  have h := h M14 eM14
  obtain ⟨h15, h⟩ := h
  refine x_put (x := mN M13) (dA D_X9_init 21 rfl) fw_RX9_29 (fun _ _ hc => by cases hc; exact Or.inr ⟨rfl, rfl⟩) h15 rfl (nar_ref _ _ _ (by first | exact Or.inl ⟨_, rfl⟩ | exact Or.inr ⟨_, rfl⟩)) (fit_ref _ _ _ (by first | exact Or.inl ⟨_, rfl⟩ | exact Or.inr ⟨_, rfl⟩)) ?_
  refine x_nmM (fun M16 eM16 => ?_)
  have h := h M16 eM16
  refine x_aload_n (dA D_X9_init 22 rfl) rfl ?_
  refine x_bipush (dA D_X9_init 23 rfl) (by decide) (by decide) ?_
  refine x_newa (k := 0) (n := 0) (N := 6) (Or.inr (Or.inl ⟨rfl, rfl⟩)) (dA D_X9_init 24 rfl) ac_long (by decide) (by decide) ?_
  refine x_nmM (fun M17 eM17 => ?_)
  have h := h M17 eM17
  obtain ⟨h18, h⟩ := h
  refine x_put (x := mN M16) (dA D_X9_init 25 rfl) fw_RX9_32 (fun _ _ hc => by cases hc; exact Or.inr ⟨rfl, rfl⟩) h18 rfl (nar_ref _ _ _ (by first | exact Or.inl ⟨_, rfl⟩ | exact Or.inr ⟨_, rfl⟩)) (fit_ref _ _ _ (by first | exact Or.inl ⟨_, rfl⟩ | exact Or.inr ⟨_, rfl⟩)) ?_
  refine x_nmM (fun M19 eM19 => ?_)
  have h := h M19 eM19
  refine x_aload_n (dA D_X9_init 26 rfl) rfl ?_
  refine x_iconst (dA D_X9_init 27 rfl) ?_
  obtain ⟨h20, h⟩ := h
  refine x_put (x := 1) (dA D_X9_init 28 rfl) fw_RX9_35 (fun _ _ hc => by cases hc; exact Or.inr ⟨rfl, rfl⟩) h20 rfl rfl rfl ?_
  refine x_nmM (fun M21 eM21 => ?_)
  have h := h M21 eM21
  refine x_aload_n (dA D_X9_init 29 rfl) rfl ?_
  refine x_iconst (dA D_X9_init 30 rfl) ?_
  obtain ⟨h22, h⟩ := h
  refine x_put (x := 4) (dA D_X9_init 31 rfl) fw_RX9_39 (fun _ _ hc => by cases hc; exact Or.inr ⟨rfl, rfl⟩) h22 rfl rfl rfl ?_
  refine x_nmM (fun M23 eM23 => ?_)
  have h := h M23 eM23
  refine x_aload_n (dA D_X9_init 32 rfl) rfl ?_
  refine x_bipush (dA D_X9_init 33 rfl) (by decide) (by decide) ?_
  obtain ⟨h24, h⟩ := h
  refine x_put (x := 8) (dA D_X9_init 34 rfl) fw_RX9_42 (fun _ _ hc => by cases hc; exact Or.inr ⟨rfl, rfl⟩) h24 rfl rfl rfl ?_
  refine x_nmM (fun M25 eM25 => ?_)
  have h := h M25 eM25
  refine x_aload_n (dA D_X9_init 35 rfl) rfl ?_
  refine x_aload_n (dA D_X9_init 36 rfl) rfl ?_
  obtain ⟨h26, h⟩ := h
  refine x_put (x := x1) (dA D_X9_init 37 rfl) fw_RX9_45 (fun _ _ hc => by cases hc; exact Or.inr ⟨rfl, rfl⟩) h26 rfl (nar_ref _ _ _ (by first | exact Or.inl ⟨_, rfl⟩ | exact Or.inr ⟨_, rfl⟩)) (fit_ref _ _ _ (by first | exact Or.inl ⟨_, rfl⟩ | exact Or.inr ⟨_, rfl⟩)) ?_
  refine x_nmM (fun M27 eM27 => ?_)
  have h := h M27 eM27
  refine x_aload_n (dA D_X9_init 38 rfl) rfl ?_
  refine x_aload_n (dA D_X9_init 39 rfl) rfl ?_
  obtain ⟨h28, h⟩ := h
  refine x_put (x := x2) (dA D_X9_init 40 rfl) fw_RX9_49 (fun _ _ hc => by cases hc; exact Or.inr ⟨rfl, rfl⟩) h28 rfl (nar_ref _ _ _ (by first | exact Or.inl ⟨_, rfl⟩ | exact Or.inr ⟨_, rfl⟩)) (fit_ref _ _ _ (by first | exact Or.inl ⟨_, rfl⟩ | exact Or.inr ⟨_, rfl⟩)) ?_
  refine x_nmM (fun M29 eM29 => ?_)
  have h := h M29 eM29
  refine x_aload_n (dA D_X9_init 41 rfl) rfl ?_
  refine x_aload_n (dA D_X9_init 42 rfl) rfl ?_
  obtain ⟨h30, h⟩ := h
  refine x_put (x := x3) (dA D_X9_init 43 rfl) fw_RX9_53 (fun _ _ hc => by cases hc; exact Or.inr ⟨rfl, rfl⟩) h30 rfl (nar_ref _ _ _ (by first | exact Or.inl ⟨_, rfl⟩ | exact Or.inr ⟨_, rfl⟩)) (fit_ref _ _ _ (by first | exact Or.inl ⟨_, rfl⟩ | exact Or.inr ⟨_, rfl⟩)) ?_
  refine x_nmM (fun M31 eM31 => ?_)
  have h := h M31 eM31
  exact x_return (dA D_X9_init 44 rfl) rfl h
theorem C_X9_init {G : GG} {d : Nat} {x0 x1 x2 x3 : Int} {M : MM} {Q : PV → MM → Prop} (h : X G Y_X9_init d 6 21460 0 [vA x0, vA x1, vA x2, vA x3] [] M Q) : C G Y_X9_init d 6 21460 [vA x0, vA x1, vA x2, vA x3] M Q := X.entry (by decide) (Nat.le_of_ble_eq_true rfl) rfl rfl rfl h
set_option maxRecDepth 100000 in
theorem B_X3_init_0 {G : GG} {d : Nat} {x0 x1 x2 : Int} {M : MM} {Q : PV → MM → Prop} (hd : 2 ≤ d) (h : 0 ≤ x0 ∧ ∀ M2, M2 = al M 20 5 (fun _ => 0) → okO M2 x0 2 ∧ ∀ M4, M4 = wr M2 x0 3 (mN M) → okO M4 x0 2 ∧ ∀ M6, M6 = wr M4 x0 4 0 → okO M6 x0 2 ∧ ∀ M8, M8 = wr M6 x0 0 x1 → okO M8 x0 2 ∧ ∀ M10, M10 = wr M8 x0 1 x2 → ∀ M11, M11 = al M10 8 (kN 8) (fun j => dV (fT 8 j.toNat)) → 0 ≤ (mN M10) ∧ C G Y_X9_init (d - 1) 6 21460 [vA (mN M10), vA x1, vA x2, vA (-1)] M11 (rU (fun M13 => okO M13 x0 2 ∧ ∀ M15, M15 = wr M13 x0 2 (mN M10) → Q vU M15))) : X G Y_X3_init d 8 21477 0 [vA x0, vA x1, vA x2] [] M Q := by
  have hd1 : 1 ≤ d := by omega
  refine x_aload_n (dA D_X3_init 0 rfl) rfl ?_
  obtain ⟨h1, h⟩ := h
  refine x_oinit [] (dA D_X3_init 1 rfl) ⟨ml_RX3_3, w_oi, w_oc⟩ (by decide) hd1 h1 ?_
  refine x_aload_n (dA D_X3_init 2 rfl) rfl ?_
  refine x_iconst (dA D_X3_init 3 rfl) ?_
  refine x_newa (k := 7) (n := 21472) (N := 5) (Or.inl ⟨rfl, rfl⟩) (dA D_X3_init 4 rfl) ac_int (by decide) (by decide) ?_
  refine x_nmM (fun M2 eM2 => ?_)
  have h := h M2 eM2
  obtain ⟨h3, h⟩ := h
  refine x_put (x := mN M) (dA D_X3_init 5 rfl) fw_RX3_9 (fun _ _ hc => by cases hc; exact Or.inr ⟨rfl, rfl⟩) h3 rfl (nar_ref _ _ _ (by first | exact Or.inl ⟨_, rfl⟩ | exact Or.inr ⟨_, rfl⟩)) (fit_ref _ _ _ (by first | exact Or.inl ⟨_, rfl⟩ | exact Or.inr ⟨_, rfl⟩)) ?_
  refine x_nmM (fun M4 eM4 => ?_)
  have h := h M4 eM4
  refine x_aload_n (dA D_X3_init 6 rfl) rfl ?_
  refine x_iconst (dA D_X3_init 7 rfl) ?_
  obtain ⟨h5, h⟩ := h
  refine x_put (x := 0) (dA D_X3_init 8 rfl) fw_RX3_15 (fun _ _ hc => by cases hc; exact Or.inr ⟨rfl, rfl⟩) h5 rfl rfl rfl ?_
  refine x_nmM (fun M6 eM6 => ?_)
  have h := h M6 eM6
  refine x_aload_n (dA D_X3_init 9 rfl) rfl ?_
  refine x_aload_n (dA D_X3_init 10 rfl) rfl ?_
  obtain ⟨h7, h⟩ := h
  refine x_put (x := x1) (dA D_X3_init 11 rfl) fw_RX3_19 (fun _ _ hc => by cases hc; exact Or.inr ⟨rfl, rfl⟩) h7 rfl (nar_ref _ _ _ (by first | exact Or.inl ⟨_, rfl⟩ | exact Or.inr ⟨_, rfl⟩)) (fit_ref _ _ _ (by first | exact Or.inl ⟨_, rfl⟩ | exact Or.inr ⟨_, rfl⟩)) ?_
  refine x_nmM (fun M8 eM8 => ?_)
  have h := h M8 eM8
  refine x_aload_n (dA D_X3_init 12 rfl) rfl ?_
  refine x_aload_n (dA D_X3_init 13 rfl) rfl ?_
  obtain ⟨h9, h⟩ := h
  refine x_put (x := x2) (dA D_X3_init 14 rfl) fw_RX3_23 (fun _ _ hc => by cases hc; exact Or.inr ⟨rfl, rfl⟩) h9 rfl (nar_ref _ _ _ (by first | exact Or.inl ⟨_, rfl⟩ | exact Or.inr ⟨_, rfl⟩)) (fit_ref _ _ _ (by first | exact Or.inl ⟨_, rfl⟩ | exact Or.inr ⟨_, rfl⟩)) ?_
  refine x_nmM (fun M10 eM10 => ?_)
  have h := h M10 eM10
  refine x_aload_n (dA D_X3_init 15 rfl) rfl ?_
  refine x_new (k := 6) (n := 21460) (dA D_X3_init 16 rfl) nw_RX3_27 (by decide) ?_
  refine x_nmM (fun M11 eM11 => ?_)
  have h := h M11 eM11
  refine x_dup (dA D_X3_init 17 rfl) rfl ?_
  refine x_aload_n (dA D_X3_init 18 rfl) rfl ?_
  refine x_aload_n (dA D_X3_init 19 rfl) rfl ?_
  refine x_null (dA D_X3_init 20 rfl) ?_
  obtain ⟨h12, h⟩ := h
  refine x_callI [vA x1, vA x2, vA (-1)] [vA (mN M10), vA x0] (dA D_X3_init 21 rfl) cw_RX3_29 rfl rfl (Nat.le_of_ble_eq_true rfl) hd1 (k := 0) (n := 0) (by decide) (by decide) h12 h (kU (fun M13 h => ?_))
  obtain ⟨h14, h⟩ := h
  refine x_put (x := mN M10) (dA D_X3_init 22 rfl) fw_RX3_32 (fun _ _ hc => by cases hc; exact Or.inr ⟨rfl, rfl⟩) h14 rfl (nar_ref _ _ _ (by first | exact Or.inl ⟨_, rfl⟩ | exact Or.inr ⟨_, rfl⟩)) (fit_ref _ _ _ (by first | exact Or.inl ⟨_, rfl⟩ | exact Or.inr ⟨_, rfl⟩)) ?_
  refine x_nmM (fun M15 eM15 => ?_)
  have h := h M15 eM15
  exact x_return (dA D_X3_init 23 rfl) rfl h
theorem C_X3_init {G : GG} {d : Nat} {x0 x1 x2 : Int} {M : MM} {Q : PV → MM → Prop} (h : X G Y_X3_init d 8 21477 0 [vA x0, vA x1, vA x2] [] M Q) : C G Y_X3_init d 8 21477 [vA x0, vA x1, vA x2] M Q := X.entry (by decide) (Nat.le_of_ble_eq_true rfl) rfl rfl rfl h
set_option maxRecDepth 100000 in
theorem B_X6_init_0 {G : GG} {d : Nat} {x0 x1 x2 x3 : Int} {M : MM} {Q : PV → MM → Prop} (hd : 2 ≤ d) (h : 0 ≤ x0 ∧ okO M x0 5 ∧ ∀ M3, M3 = wr M x0 4 0 → ∀ M4, M4 = al M3 20 120 (fun _ => 0) → okO M4 x0 5 ∧ ∀ M6, M6 = wr M4 x0 5 (mN M3) → okO M6 x0 5 ∧ ∀ M8, M8 = wr M6 x0 6 0 → okO M8 x0 5 ∧ ∀ M10, M10 = wr M8 x0 7 0 → okO M10 x0 5 ∧ ∀ M12, M12 = wr M10 x0 8 0 → ∀ M13, M13 = al M12 21 14 (fun _ => 0) → okO M13 x0 5 ∧ ∀ M15, M15 = wr M13 x0 9 (mN M12) → ∀ M16, M16 = al M15 21 14 (fun _ => 0) → okO M16 x0 5 ∧ ∀ M18, M18 = wr M16 x0 10 (mN M15) → ∀ M19, M19 = al M18 21 14 (fun _ => 0) → okO M19 x0 5 ∧ ∀ M21, M21 = wr M19 x0 11 (mN M18) → okO M21 x0 5 ∧ ∀ M23, M23 = wr M21 x0 0 x1 → okO M23 x0 5 ∧ ∀ M25, M25 = wr M23 x0 1 x2 → okO M25 x0 5 ∧ ∀ M27, M27 = wr M25 x0 2 x3 → ∀ M28, M28 = al M27 8 (kN 8) (fun j => dV (fT 8 j.toNat)) → 0 ≤ (mN M27) ∧ C G Y_X9_init (d - 1) 6 21460 [vA (mN M27), vA x1, vA x2, vA x3] M28 (rU (fun M30 => okO M30 x0 5 ∧ ∀ M32, M32 = wr M30 x0 3 (mN M27) → Q vU M32))) : X G Y_X6_init d 11 21634 0 [vA x0, vA x1, vA x2, vA x3] [] M Q := by
  have hd1 : 1 ≤ d := by omega
  refine x_aload_n (dA D_X6_init 0 rfl) rfl ?_
  obtain ⟨h1, h⟩ := h
  refine x_oinit [] (dA D_X6_init 1 rfl) ⟨ml_RX6_3, w_oi, w_oc⟩ (by decide) hd1 h1 ?_
  refine x_aload_n (dA D_X6_init 2 rfl) rfl ?_
  refine x_iconst (dA D_X6_init 3 rfl) ?_
  obtain ⟨h2, h⟩ := h
  refine x_put (x := 0) (dA D_X6_init 4 rfl) fw_RX6_9 (fun _ _ hc => by cases hc; exact Or.inr ⟨rfl, rfl⟩) h2 rfl (z_nar (by decide)) (z_fit (by decide)) ?_
  refine x_nmM (fun M3 eM3 => ?_)
  have h := h M3 eM3
  refine x_aload_n (dA D_X6_init 5 rfl) rfl ?_
  refine x_bipush (dA D_X6_init 6 rfl) (by decide) (by decide) ?_
  refine x_newa (k := 10) (n := 21514) (N := 120) (Or.inl ⟨rfl, rfl⟩) (dA D_X6_init 7 rfl) ac_int (by decide) (by decide) ?_
  refine x_nmM (fun M4 eM4 => ?_)
  have h := h M4 eM4
  obtain ⟨h5, h⟩ := h
  refine x_put (x := mN M3) (dA D_X6_init 8 rfl) fw_RX6_15 (fun _ _ hc => by cases hc; exact Or.inr ⟨rfl, rfl⟩) h5 rfl (nar_ref _ _ _ (by first | exact Or.inl ⟨_, rfl⟩ | exact Or.inr ⟨_, rfl⟩)) (fit_ref _ _ _ (by first | exact Or.inl ⟨_, rfl⟩ | exact Or.inr ⟨_, rfl⟩)) ?_
  refine x_nmM (fun M6 eM6 => ?_)
  have h := h M6 eM6
  refine x_aload_n (dA D_X6_init 9 rfl) rfl ?_
  refine x_iconst (dA D_X6_init 10 rfl) ?_
  obtain ⟨h7, h⟩ := h
  refine x_put (x := 0) (dA D_X6_init 11 rfl) fw_RX6_19 (fun _ _ hc => by cases hc; exact Or.inr ⟨rfl, rfl⟩) h7 rfl rfl rfl ?_
  refine x_nmM (fun M8 eM8 => ?_)
  have h := h M8 eM8
  refine x_aload_n (dA D_X6_init 12 rfl) rfl ?_
  refine x_iconst (dA D_X6_init 13 rfl) ?_
  obtain ⟨h9, h⟩ := h
  refine x_put (x := 0) (dA D_X6_init 14 rfl) fw_RX6_23 (fun _ _ hc => by cases hc; exact Or.inr ⟨rfl, rfl⟩) h9 rfl (z_nar (by decide)) (z_fit (by decide)) ?_
  refine x_nmM (fun M10 eM10 => ?_)
  have h := h M10 eM10
  refine x_aload_n (dA D_X6_init 15 rfl) rfl ?_
  refine x_iconst (dA D_X6_init 16 rfl) ?_
  obtain ⟨h11, h⟩ := h
  refine x_put (x := 0) (dA D_X6_init 17 rfl) fw_RX6_26 (fun _ _ hc => by cases hc; exact Or.inr ⟨rfl, rfl⟩) h11 rfl (z_nar (by decide)) (z_fit (by decide)) ?_
  refine x_nmM (fun M12 eM12 => ?_)
  have h := h M12 eM12
  refine x_aload_n (dA D_X6_init 18 rfl) rfl ?_
  refine x_bipush (dA D_X6_init 19 rfl) (by decide) (by decide) ?_
  refine x_newa (k := 9) (n := 21500) (N := 14) (Or.inr (Or.inl ⟨rfl, rfl⟩)) (dA D_X6_init 20 rfl) ac_long (by decide) (by decide) ?_
  refine x_nmM (fun M13 eM13 => ?_)
  have h := h M13 eM13
  obtain ⟨h14, h⟩ := h
  refine x_put (x := mN M12) (dA D_X6_init 21 rfl) fw_RX6_31 (fun _ _ hc => by cases hc; exact Or.inr ⟨rfl, rfl⟩) h14 rfl (nar_ref _ _ _ (by first | exact Or.inl ⟨_, rfl⟩ | exact Or.inr ⟨_, rfl⟩)) (fit_ref _ _ _ (by first | exact Or.inl ⟨_, rfl⟩ | exact Or.inr ⟨_, rfl⟩)) ?_
  refine x_nmM (fun M15 eM15 => ?_)
  have h := h M15 eM15
  refine x_aload_n (dA D_X6_init 22 rfl) rfl ?_
  refine x_bipush (dA D_X6_init 23 rfl) (by decide) (by decide) ?_
  refine x_newa (k := 8) (n := 21486) (N := 14) (Or.inr (Or.inl ⟨rfl, rfl⟩)) (dA D_X6_init 24 rfl) ac_long (by decide) (by decide) ?_
  refine x_nmM (fun M16 eM16 => ?_)
  have h := h M16 eM16
  obtain ⟨h17, h⟩ := h
  refine x_put (x := mN M15) (dA D_X6_init 25 rfl) fw_RX6_35 (fun _ _ hc => by cases hc; exact Or.inr ⟨rfl, rfl⟩) h17 rfl (nar_ref _ _ _ (by first | exact Or.inl ⟨_, rfl⟩ | exact Or.inr ⟨_, rfl⟩)) (fit_ref _ _ _ (by first | exact Or.inl ⟨_, rfl⟩ | exact Or.inr ⟨_, rfl⟩)) ?_
  refine x_nmM (fun M18 eM18 => ?_)
  have h := h M18 eM18
  refine x_aload_n (dA D_X6_init 26 rfl) rfl ?_
  refine x_bipush (dA D_X6_init 27 rfl) (by decide) (by decide) ?_
  refine x_newa (k := 7) (n := 21472) (N := 14) (Or.inr (Or.inl ⟨rfl, rfl⟩)) (dA D_X6_init 28 rfl) ac_long (by decide) (by decide) ?_
  refine x_nmM (fun M19 eM19 => ?_)
  have h := h M19 eM19
  obtain ⟨h20, h⟩ := h
  refine x_put (x := mN M18) (dA D_X6_init 29 rfl) fw_RX6_38 (fun _ _ hc => by cases hc; exact Or.inr ⟨rfl, rfl⟩) h20 rfl (nar_ref _ _ _ (by first | exact Or.inl ⟨_, rfl⟩ | exact Or.inr ⟨_, rfl⟩)) (fit_ref _ _ _ (by first | exact Or.inl ⟨_, rfl⟩ | exact Or.inr ⟨_, rfl⟩)) ?_
  refine x_nmM (fun M21 eM21 => ?_)
  have h := h M21 eM21
  refine x_aload_n (dA D_X6_init 30 rfl) rfl ?_
  refine x_aload_n (dA D_X6_init 31 rfl) rfl ?_
  obtain ⟨h22, h⟩ := h
  refine x_put (x := x1) (dA D_X6_init 32 rfl) fw_RX6_41 (fun _ _ hc => by cases hc; exact Or.inr ⟨rfl, rfl⟩) h22 rfl (nar_ref _ _ _ (by first | exact Or.inl ⟨_, rfl⟩ | exact Or.inr ⟨_, rfl⟩)) (fit_ref _ _ _ (by first | exact Or.inl ⟨_, rfl⟩ | exact Or.inr ⟨_, rfl⟩)) ?_
  refine x_nmM (fun M23 eM23 => ?_)
  have h := h M23 eM23
  refine x_aload_n (dA D_X6_init 33 rfl) rfl ?_
  refine x_aload_n (dA D_X6_init 34 rfl) rfl ?_
  obtain ⟨h24, h⟩ := h
  refine x_put (x := x2) (dA D_X6_init 35 rfl) fw_RX6_45 (fun _ _ hc => by cases hc; exact Or.inr ⟨rfl, rfl⟩) h24 rfl (nar_ref _ _ _ (by first | exact Or.inl ⟨_, rfl⟩ | exact Or.inr ⟨_, rfl⟩)) (fit_ref _ _ _ (by first | exact Or.inl ⟨_, rfl⟩ | exact Or.inr ⟨_, rfl⟩)) ?_
  refine x_nmM (fun M25 eM25 => ?_)
  have h := h M25 eM25
  refine x_aload_n (dA D_X6_init 36 rfl) rfl ?_
  refine x_aload_n (dA D_X6_init 37 rfl) rfl ?_
  obtain ⟨h26, h⟩ := h
  refine x_put (x := x3) (dA D_X6_init 38 rfl) fw_RX6_49 (fun _ _ hc => by cases hc; exact Or.inr ⟨rfl, rfl⟩) h26 rfl (nar_ref _ _ _ (by first | exact Or.inl ⟨_, rfl⟩ | exact Or.inr ⟨_, rfl⟩)) (fit_ref _ _ _ (by first | exact Or.inl ⟨_, rfl⟩ | exact Or.inr ⟨_, rfl⟩)) ?_
  refine x_nmM (fun M27 eM27 => ?_)
  have h := h M27 eM27
  refine x_aload_n (dA D_X6_init 39 rfl) rfl ?_
  refine x_new (k := 6) (n := 21460) (dA D_X6_init 40 rfl) nw_RX6_53 (by decide) ?_
  refine x_nmM (fun M28 eM28 => ?_)
  have h := h M28 eM28
  refine x_dup (dA D_X6_init 41 rfl) rfl ?_
  refine x_aload_n (dA D_X6_init 42 rfl) rfl ?_
  refine x_aload_n (dA D_X6_init 43 rfl) rfl ?_
  refine x_aload_n (dA D_X6_init 44 rfl) rfl ?_
  obtain ⟨h29, h⟩ := h
  refine x_callI [vA x1, vA x2, vA x3] [vA (mN M27), vA x0] (dA D_X6_init 45 rfl) cw_RX6_55 rfl rfl (Nat.le_of_ble_eq_true rfl) hd1 (k := 0) (n := 0) (by decide) (by decide) h29 h (kU (fun M30 h => ?_))
  obtain ⟨h31, h⟩ := h
  refine x_put (x := mN M27) (dA D_X6_init 46 rfl) fw_RX6_58 (fun _ _ hc => by cases hc; exact Or.inr ⟨rfl, rfl⟩) h31 rfl (nar_ref _ _ _ (by first | exact Or.inl ⟨_, rfl⟩ | exact Or.inr ⟨_, rfl⟩)) (fit_ref _ _ _ (by first | exact Or.inl ⟨_, rfl⟩ | exact Or.inr ⟨_, rfl⟩)) ?_
  refine x_nmM (fun M32 eM32 => ?_)
  have h := h M32 eM32
  exact x_return (dA D_X6_init 47 rfl) rfl h
theorem C_X6_init {G : GG} {d : Nat} {x0 x1 x2 x3 : Int} {M : MM} {Q : PV → MM → Prop} (h : X G Y_X6_init d 11 21634 0 [vA x0, vA x1, vA x2, vA x3] [] M Q) : C G Y_X6_init d 11 21634 [vA x0, vA x1, vA x2, vA x3] M Q := X.entry (by decide) (Nat.le_of_ble_eq_true rfl) rfl rfl rfl h
set_option maxRecDepth 100000 in
theorem B_X1_init_0 {G : GG} {d : Nat} {x0 x1 x2 : Int} {M : MM} {Q : PV → MM → Prop} (hd : 1 ≤ d) (h : 0 ≤ x0 ∧ ∀ M2, M2 = al M 21 84 (fun _ => 0) → okO M2 x0 1 ∧ ∀ M4, M4 = wr M2 x0 2 (mN M) → ∀ M5, M5 = al M4 21 84 (fun _ => 0) → okO M5 x0 1 ∧ ∀ M7, M7 = wr M5 x0 3 (mN M4) → ∀ M8, M8 = al M7 21 14 (fun _ => 0) → okO M8 x0 1 ∧ ∀ M10, M10 = wr M8 x0 4 (mN M7) → ∀ M11, M11 = al M10 21 14 (fun _ => 0) → okO M11 x0 1 ∧ ∀ M13, M13 = wr M11 x0 5 (mN M10) → ∀ M14, M14 = al M13 21 14 (fun _ => 0) → okO M14 x0 1 ∧ ∀ M16, M16 = wr M14 x0 6 (mN M13) → ∀ M17, M17 = al M16 21 6 (fun _ => 0) → okO M17 x0 1 ∧ ∀ M19, M19 = wr M17 x0 7 (mN M16) → ∀ M20, M20 = al M19 21 6 (fun _ => 0) → okO M20 x0 1 ∧ ∀ M22, M22 = wr M20 x0 8 (mN M19) → okO M22 x0 1 ∧ ∀ M24, M24 = wr M22 x0 0 x1 → okO M24 x0 1 ∧ ∀ M26, M26 = wr M24 x0 1 x2 → Q vU M26) : X G Y_X1_init d 7 222 0 [vA x0, vA x1, vA x2] [] M Q := by
  have hd1 : 1 ≤ d := by omega
  refine x_aload_n (dA D_X1_init 0 rfl) rfl ?_
  obtain ⟨h1, h⟩ := h
  refine x_oinit [] (dA D_X1_init 1 rfl) ⟨ml_RX1_3, w_oi, w_oc⟩ (by decide) hd1 h1 ?_
  refine x_aload_n (dA D_X1_init 2 rfl) rfl ?_
  refine x_bipush (dA D_X1_init 3 rfl) (by decide) (by decide) ?_
  refine x_newa (k := 6) (n := 138) (N := 84) (Or.inr (Or.inl ⟨rfl, rfl⟩)) (dA D_X1_init 4 rfl) ac_long (by decide) (by decide) ?_
  refine x_nmM (fun M2 eM2 => ?_)
  have h := h M2 eM2
  obtain ⟨h3, h⟩ := h
  refine x_put (x := mN M) (dA D_X1_init 5 rfl) fw_RX1_13 (fun _ _ hc => by cases hc; exact Or.inr ⟨rfl, rfl⟩) h3 rfl (nar_ref _ _ _ (by first | exact Or.inl ⟨_, rfl⟩ | exact Or.inr ⟨_, rfl⟩)) (fit_ref _ _ _ (by first | exact Or.inl ⟨_, rfl⟩ | exact Or.inr ⟨_, rfl⟩)) ?_
  refine x_nmM (fun M4 eM4 => ?_)
  have h := h M4 eM4
  refine x_aload_n (dA D_X1_init 6 rfl) rfl ?_
  refine x_bipush (dA D_X1_init 7 rfl) (by decide) (by decide) ?_
  refine x_newa (k := 5) (n := 54) (N := 84) (Or.inr (Or.inl ⟨rfl, rfl⟩)) (dA D_X1_init 8 rfl) ac_long (by decide) (by decide) ?_
  refine x_nmM (fun M5 eM5 => ?_)
  have h := h M5 eM5
  obtain ⟨h6, h⟩ := h
  refine x_put (x := mN M4) (dA D_X1_init 9 rfl) fw_RX1_17 (fun _ _ hc => by cases hc; exact Or.inr ⟨rfl, rfl⟩) h6 rfl (nar_ref _ _ _ (by first | exact Or.inl ⟨_, rfl⟩ | exact Or.inr ⟨_, rfl⟩)) (fit_ref _ _ _ (by first | exact Or.inl ⟨_, rfl⟩ | exact Or.inr ⟨_, rfl⟩)) ?_
  refine x_nmM (fun M7 eM7 => ?_)
  have h := h M7 eM7
  refine x_aload_n (dA D_X1_init 10 rfl) rfl ?_
  refine x_bipush (dA D_X1_init 11 rfl) (by decide) (by decide) ?_
  refine x_newa (k := 4) (n := 40) (N := 14) (Or.inr (Or.inl ⟨rfl, rfl⟩)) (dA D_X1_init 12 rfl) ac_long (by decide) (by decide) ?_
  refine x_nmM (fun M8 eM8 => ?_)
  have h := h M8 eM8
  obtain ⟨h9, h⟩ := h
  refine x_put (x := mN M7) (dA D_X1_init 13 rfl) fw_RX1_20 (fun _ _ hc => by cases hc; exact Or.inr ⟨rfl, rfl⟩) h9 rfl (nar_ref _ _ _ (by first | exact Or.inl ⟨_, rfl⟩ | exact Or.inr ⟨_, rfl⟩)) (fit_ref _ _ _ (by first | exact Or.inl ⟨_, rfl⟩ | exact Or.inr ⟨_, rfl⟩)) ?_
  refine x_nmM (fun M10 eM10 => ?_)
  have h := h M10 eM10
  refine x_aload_n (dA D_X1_init 14 rfl) rfl ?_
  refine x_bipush (dA D_X1_init 15 rfl) (by decide) (by decide) ?_
  refine x_newa (k := 3) (n := 26) (N := 14) (Or.inr (Or.inl ⟨rfl, rfl⟩)) (dA D_X1_init 16 rfl) ac_long (by decide) (by decide) ?_
  refine x_nmM (fun M11 eM11 => ?_)
  have h := h M11 eM11
  obtain ⟨h12, h⟩ := h
  refine x_put (x := mN M10) (dA D_X1_init 17 rfl) fw_RX1_23 (fun _ _ hc => by cases hc; exact Or.inr ⟨rfl, rfl⟩) h12 rfl (nar_ref _ _ _ (by first | exact Or.inl ⟨_, rfl⟩ | exact Or.inr ⟨_, rfl⟩)) (fit_ref _ _ _ (by first | exact Or.inl ⟨_, rfl⟩ | exact Or.inr ⟨_, rfl⟩)) ?_
  refine x_nmM (fun M13 eM13 => ?_)
  have h := h M13 eM13
  refine x_aload_n (dA D_X1_init 18 rfl) rfl ?_
  refine x_bipush (dA D_X1_init 19 rfl) (by decide) (by decide) ?_
  refine x_newa (k := 2) (n := 12) (N := 14) (Or.inr (Or.inl ⟨rfl, rfl⟩)) (dA D_X1_init 20 rfl) ac_long (by decide) (by decide) ?_
  refine x_nmM (fun M14 eM14 => ?_)
  have h := h M14 eM14
  obtain ⟨h15, h⟩ := h
  refine x_put (x := mN M13) (dA D_X1_init 21 rfl) fw_RX1_26 (fun _ _ hc => by cases hc; exact Or.inr ⟨rfl, rfl⟩) h15 rfl (nar_ref _ _ _ (by first | exact Or.inl ⟨_, rfl⟩ | exact Or.inr ⟨_, rfl⟩)) (fit_ref _ _ _ (by first | exact Or.inl ⟨_, rfl⟩ | exact Or.inr ⟨_, rfl⟩)) ?_
  refine x_nmM (fun M16 eM16 => ?_)
  have h := h M16 eM16
  refine x_aload_n (dA D_X1_init 22 rfl) rfl ?_
  refine x_bipush (dA D_X1_init 23 rfl) (by decide) (by decide) ?_
  refine x_newa (k := 1) (n := 6) (N := 6) (Or.inr (Or.inl ⟨rfl, rfl⟩)) (dA D_X1_init 24 rfl) ac_long (by decide) (by decide) ?_
  refine x_nmM (fun M17 eM17 => ?_)
  have h := h M17 eM17
  obtain ⟨h18, h⟩ := h
  refine x_put (x := mN M16) (dA D_X1_init 25 rfl) fw_RX1_29 (fun _ _ hc => by cases hc; exact Or.inr ⟨rfl, rfl⟩) h18 rfl (nar_ref _ _ _ (by first | exact Or.inl ⟨_, rfl⟩ | exact Or.inr ⟨_, rfl⟩)) (fit_ref _ _ _ (by first | exact Or.inl ⟨_, rfl⟩ | exact Or.inr ⟨_, rfl⟩)) ?_
  refine x_nmM (fun M19 eM19 => ?_)
  have h := h M19 eM19
  refine x_aload_n (dA D_X1_init 26 rfl) rfl ?_
  refine x_bipush (dA D_X1_init 27 rfl) (by decide) (by decide) ?_
  refine x_newa (k := 0) (n := 0) (N := 6) (Or.inr (Or.inl ⟨rfl, rfl⟩)) (dA D_X1_init 28 rfl) ac_long (by decide) (by decide) ?_
  refine x_nmM (fun M20 eM20 => ?_)
  have h := h M20 eM20
  obtain ⟨h21, h⟩ := h
  refine x_put (x := mN M19) (dA D_X1_init 29 rfl) fw_RX1_32 (fun _ _ hc => by cases hc; exact Or.inr ⟨rfl, rfl⟩) h21 rfl (nar_ref _ _ _ (by first | exact Or.inl ⟨_, rfl⟩ | exact Or.inr ⟨_, rfl⟩)) (fit_ref _ _ _ (by first | exact Or.inl ⟨_, rfl⟩ | exact Or.inr ⟨_, rfl⟩)) ?_
  refine x_nmM (fun M22 eM22 => ?_)
  have h := h M22 eM22
  refine x_aload_n (dA D_X1_init 30 rfl) rfl ?_
  refine x_aload_n (dA D_X1_init 31 rfl) rfl ?_
  obtain ⟨h23, h⟩ := h
  refine x_put (x := x1) (dA D_X1_init 32 rfl) fw_RX1_35 (fun _ _ hc => by cases hc; exact Or.inr ⟨rfl, rfl⟩) h23 rfl (nar_ref _ _ _ (by first | exact Or.inl ⟨_, rfl⟩ | exact Or.inr ⟨_, rfl⟩)) (fit_ref _ _ _ (by first | exact Or.inl ⟨_, rfl⟩ | exact Or.inr ⟨_, rfl⟩)) ?_
  refine x_nmM (fun M24 eM24 => ?_)
  have h := h M24 eM24
  refine x_aload_n (dA D_X1_init 33 rfl) rfl ?_
  refine x_aload_n (dA D_X1_init 34 rfl) rfl ?_
  obtain ⟨h25, h⟩ := h
  refine x_put (x := x2) (dA D_X1_init 35 rfl) fw_RX1_39 (fun _ _ hc => by cases hc; exact Or.inr ⟨rfl, rfl⟩) h25 rfl (nar_ref _ _ _ (by first | exact Or.inl ⟨_, rfl⟩ | exact Or.inr ⟨_, rfl⟩)) (fit_ref _ _ _ (by first | exact Or.inl ⟨_, rfl⟩ | exact Or.inr ⟨_, rfl⟩)) ?_
  refine x_nmM (fun M26 eM26 => ?_)
  have h := h M26 eM26
  exact x_return (dA D_X1_init 36 rfl) rfl h
theorem C_X1_init {G : GG} {d : Nat} {x0 x1 x2 : Int} {M : MM} {Q : PV → MM → Prop} (h : X G Y_X1_init d 7 222 0 [vA x0, vA x1, vA x2] [] M Q) : C G Y_X1_init d 7 222 [vA x0, vA x1, vA x2] M Q := X.entry (by decide) (Nat.le_of_ble_eq_true rfl) rfl rfl rfl h
set_option maxRecDepth 100000 in
theorem B_X10_init_0 {G : GG} {d : Nat} {x0 x1 x2 x3 : Int} {M : MM} {Q : PV → MM → Prop} (hd : 1 ≤ d) (h : 0 ≤ x0 ∧ okO M x0 9 ∧ ∀ M3, M3 = wr M x0 3 0 → ∀ M4, M4 = al M3 20 5 (fun _ => 0) → okO M4 x0 9 ∧ ∀ M6, M6 = wr M4 x0 4 (mN M3) → ∀ M7, M7 = al M6 20 5 (fun _ => 0) → okO M7 x0 9 ∧ ∀ M9, M9 = wr M7 x0 5 (mN M6) → ∀ M10, M10 = al M9 20 5 (fun _ => 0) → okO M10 x0 9 ∧ ∀ M12, M12 = wr M10 x0 6 (mN M9) → okO M12 x0 9 ∧ ∀ M14, M14 = wr M12 x0 7 0 → okO M14 x0 9 ∧ ∀ M16, M16 = wr M14 x0 8 0 → okO M16 x0 9 ∧ ∀ M18, M18 = wr M16 x0 9 0 → okO M18 x0 9 ∧ ∀ M20, M20 = wr M18 x0 10 0 → okO M20 x0 9 ∧ ∀ M22, M22 = wr M20 x0 11 0 → okO M22 x0 9 ∧ ∀ M24, M24 = wr M22 x0 12 0 → okO M24 x0 9 ∧ ∀ M26, M26 = wr M24 x0 0 x1 → okO M26 x0 9 ∧ ∀ M28, M28 = wr M26 x0 1 x2 → okO M28 x0 9 ∧ ∀ M30, M30 = wr M28 x0 2 x3 → Q vU M30) : X G Y_X10_init d 3 15 0 [vA x0, vA x1, vA x2, vA x3] [] M Q := by
  have hd1 : 1 ≤ d := by omega
  refine x_aload_n (dA D_X10_init 0 rfl) rfl ?_
  obtain ⟨h1, h⟩ := h
  refine x_oinit [] (dA D_X10_init 1 rfl) ⟨ml_RX10_3, w_oi, w_oc⟩ (by decide) hd1 h1 ?_
  refine x_aload_n (dA D_X10_init 2 rfl) rfl ?_
  refine x_iconst (dA D_X10_init 3 rfl) ?_
  obtain ⟨h2, h⟩ := h
  refine x_put (x := 0) (dA D_X10_init 4 rfl) fw_RX10_9 (fun _ _ hc => by cases hc; exact Or.inr ⟨rfl, rfl⟩) h2 rfl rfl rfl ?_
  refine x_nmM (fun M3 eM3 => ?_)
  have h := h M3 eM3
  refine x_aload_n (dA D_X10_init 5 rfl) rfl ?_
  refine x_iconst (dA D_X10_init 6 rfl) ?_
  refine x_newa (k := 2) (n := 10) (N := 5) (Or.inl ⟨rfl, rfl⟩) (dA D_X10_init 7 rfl) ac_int (by decide) (by decide) ?_
  refine x_nmM (fun M4 eM4 => ?_)
  have h := h M4 eM4
  obtain ⟨h5, h⟩ := h
  refine x_put (x := mN M3) (dA D_X10_init 8 rfl) fw_RX10_15 (fun _ _ hc => by cases hc; exact Or.inr ⟨rfl, rfl⟩) h5 rfl (nar_ref _ _ _ (by first | exact Or.inl ⟨_, rfl⟩ | exact Or.inr ⟨_, rfl⟩)) (fit_ref _ _ _ (by first | exact Or.inl ⟨_, rfl⟩ | exact Or.inr ⟨_, rfl⟩)) ?_
  refine x_nmM (fun M6 eM6 => ?_)
  have h := h M6 eM6
  refine x_aload_n (dA D_X10_init 9 rfl) rfl ?_
  refine x_iconst (dA D_X10_init 10 rfl) ?_
  refine x_newa (k := 1) (n := 5) (N := 5) (Or.inl ⟨rfl, rfl⟩) (dA D_X10_init 11 rfl) ac_int (by decide) (by decide) ?_
  refine x_nmM (fun M7 eM7 => ?_)
  have h := h M7 eM7
  obtain ⟨h8, h⟩ := h
  refine x_put (x := mN M6) (dA D_X10_init 12 rfl) fw_RX10_19 (fun _ _ hc => by cases hc; exact Or.inr ⟨rfl, rfl⟩) h8 rfl (nar_ref _ _ _ (by first | exact Or.inl ⟨_, rfl⟩ | exact Or.inr ⟨_, rfl⟩)) (fit_ref _ _ _ (by first | exact Or.inl ⟨_, rfl⟩ | exact Or.inr ⟨_, rfl⟩)) ?_
  refine x_nmM (fun M9 eM9 => ?_)
  have h := h M9 eM9
  refine x_aload_n (dA D_X10_init 13 rfl) rfl ?_
  refine x_iconst (dA D_X10_init 14 rfl) ?_
  refine x_newa (k := 0) (n := 0) (N := 5) (Or.inl ⟨rfl, rfl⟩) (dA D_X10_init 15 rfl) ac_int (by decide) (by decide) ?_
  refine x_nmM (fun M10 eM10 => ?_)
  have h := h M10 eM10
  obtain ⟨h11, h⟩ := h
  refine x_put (x := mN M9) (dA D_X10_init 16 rfl) fw_RX10_22 (fun _ _ hc => by cases hc; exact Or.inr ⟨rfl, rfl⟩) h11 rfl (nar_ref _ _ _ (by first | exact Or.inl ⟨_, rfl⟩ | exact Or.inr ⟨_, rfl⟩)) (fit_ref _ _ _ (by first | exact Or.inl ⟨_, rfl⟩ | exact Or.inr ⟨_, rfl⟩)) ?_
  refine x_nmM (fun M12 eM12 => ?_)
  have h := h M12 eM12
  refine x_aload_n (dA D_X10_init 17 rfl) rfl ?_
  refine x_iconst (dA D_X10_init 18 rfl) ?_
  obtain ⟨h13, h⟩ := h
  refine x_put (x := 0) (dA D_X10_init 19 rfl) fw_RX10_25 (fun _ _ hc => by cases hc; exact Or.inr ⟨rfl, rfl⟩) h13 rfl rfl rfl ?_
  refine x_nmM (fun M14 eM14 => ?_)
  have h := h M14 eM14
  refine x_aload_n (dA D_X10_init 20 rfl) rfl ?_
  refine x_iconst (dA D_X10_init 21 rfl) ?_
  obtain ⟨h15, h⟩ := h
  refine x_put (x := 0) (dA D_X10_init 22 rfl) fw_RX10_28 (fun _ _ hc => by cases hc; exact Or.inr ⟨rfl, rfl⟩) h15 rfl rfl rfl ?_
  refine x_nmM (fun M16 eM16 => ?_)
  have h := h M16 eM16
  refine x_aload_n (dA D_X10_init 23 rfl) rfl ?_
  refine x_iconst (dA D_X10_init 24 rfl) ?_
  obtain ⟨h17, h⟩ := h
  refine x_put (x := 0) (dA D_X10_init 25 rfl) fw_RX10_31 (fun _ _ hc => by cases hc; exact Or.inr ⟨rfl, rfl⟩) h17 rfl rfl rfl ?_
  refine x_nmM (fun M18 eM18 => ?_)
  have h := h M18 eM18
  refine x_aload_n (dA D_X10_init 26 rfl) rfl ?_
  refine x_iconst (dA D_X10_init 27 rfl) ?_
  obtain ⟨h19, h⟩ := h
  refine x_put (x := 0) (dA D_X10_init 28 rfl) fw_RX10_34 (fun _ _ hc => by cases hc; exact Or.inr ⟨rfl, rfl⟩) h19 rfl rfl rfl ?_
  refine x_nmM (fun M20 eM20 => ?_)
  have h := h M20 eM20
  refine x_aload_n (dA D_X10_init 29 rfl) rfl ?_
  refine x_iconst (dA D_X10_init 30 rfl) ?_
  obtain ⟨h21, h⟩ := h
  refine x_put (x := 0) (dA D_X10_init 31 rfl) fw_RX10_37 (fun _ _ hc => by cases hc; exact Or.inr ⟨rfl, rfl⟩) h21 rfl rfl rfl ?_
  refine x_nmM (fun M22 eM22 => ?_)
  have h := h M22 eM22
  refine x_aload_n (dA D_X10_init 32 rfl) rfl ?_
  refine x_iconst (dA D_X10_init 33 rfl) ?_
  obtain ⟨h23, h⟩ := h
  refine x_put (x := 0) (dA D_X10_init 34 rfl) fw_RX10_40 (fun _ _ hc => by cases hc; exact Or.inr ⟨rfl, rfl⟩) h23 rfl rfl rfl ?_
  refine x_nmM (fun M24 eM24 => ?_)
  have h := h M24 eM24
  refine x_aload_n (dA D_X10_init 35 rfl) rfl ?_
  refine x_aload_n (dA D_X10_init 36 rfl) rfl ?_
  obtain ⟨h25, h⟩ := h
  refine x_put (x := x1) (dA D_X10_init 37 rfl) fw_RX10_43 (fun _ _ hc => by cases hc; exact Or.inr ⟨rfl, rfl⟩) h25 rfl (nar_ref _ _ _ (by first | exact Or.inl ⟨_, rfl⟩ | exact Or.inr ⟨_, rfl⟩)) (fit_ref _ _ _ (by first | exact Or.inl ⟨_, rfl⟩ | exact Or.inr ⟨_, rfl⟩)) ?_
  refine x_nmM (fun M26 eM26 => ?_)
  have h := h M26 eM26
  refine x_aload_n (dA D_X10_init 38 rfl) rfl ?_
  refine x_aload_n (dA D_X10_init 39 rfl) rfl ?_
  obtain ⟨h27, h⟩ := h
  refine x_put (x := x2) (dA D_X10_init 40 rfl) fw_RX10_47 (fun _ _ hc => by cases hc; exact Or.inr ⟨rfl, rfl⟩) h27 rfl (nar_ref _ _ _ (by first | exact Or.inl ⟨_, rfl⟩ | exact Or.inr ⟨_, rfl⟩)) (fit_ref _ _ _ (by first | exact Or.inl ⟨_, rfl⟩ | exact Or.inr ⟨_, rfl⟩)) ?_
  refine x_nmM (fun M28 eM28 => ?_)
  have h := h M28 eM28
  refine x_aload_n (dA D_X10_init 41 rfl) rfl ?_
  refine x_aload_n (dA D_X10_init 42 rfl) rfl ?_
  obtain ⟨h29, h⟩ := h
  refine x_put (x := x3) (dA D_X10_init 43 rfl) fw_RX10_51 (fun _ _ hc => by cases hc; exact Or.inr ⟨rfl, rfl⟩) h29 rfl (nar_ref _ _ _ (by first | exact Or.inl ⟨_, rfl⟩ | exact Or.inr ⟨_, rfl⟩)) (fit_ref _ _ _ (by first | exact Or.inl ⟨_, rfl⟩ | exact Or.inr ⟨_, rfl⟩)) ?_
  refine x_nmM (fun M30 eM30 => ?_)
  have h := h M30 eM30
  exact x_return (dA D_X10_init 44 rfl) rfl h
theorem C_X10_init {G : GG} {d : Nat} {x0 x1 x2 x3 : Int} {M : MM} {Q : PV → MM → Prop} (h : X G Y_X10_init d 3 15 0 [vA x0, vA x1, vA x2, vA x3] [] M Q) : C G Y_X10_init d 3 15 [vA x0, vA x1, vA x2, vA x3] M Q := X.entry (by decide) (Nat.le_of_ble_eq_true rfl) rfl rfl rfl h
set_option maxRecDepth 100000 in
theorem B_X11_init_0 {G : GG} {d : Nat} {x0 : Int} {M : MM} {Q : PV → MM → Prop} (hd : 2 ≤ d) (h : 0 ≤ x0 ∧ ∀ M2, M2 = al M 3 (kN 3) (fun j => dV (fT 3 j.toNat)) → 0 ≤ (mN M) ∧ C G Y_X4_init (d - 1) 11 46 [vA (mN M)] M2 (rU (fun M4 => okO M4 x0 10 ∧ ∀ M6, M6 = wr M4 x0 0 (mN M) → ∀ M7, M7 = al M6 23 2 (fun _ => -1) → okO M7 x0 10 ∧ ∀ M9, M9 = wr M7 x0 1 (mN M6) → ∀ M10, M10 = al M9 20 400 (fun _ => 0) → okO M10 x0 10 ∧ ∀ M12, M12 = wr M10 x0 2 (mN M9) → okO M12 x0 10 ∧ ∀ M14, M14 = wr M12 x0 3 0 → okO M14 x0 10 ∧ ∀ M16, M16 = wr M14 x0 4 0 → okO M16 x0 10 ∧ ∀ M18, M18 = wr M16 x0 5 (-1) → ∀ M19, M19 = al M18 20 5 (fun _ => 0) → okO M19 x0 10 ∧ ∀ M21, M21 = wr M19 x0 6 (mN M18) → okO M21 x0 10 ∧ ∀ M23, M23 = wr M21 x0 7 0 → ∀ M24, M24 = al M23 6 (kN 6) (fun j => dV (fT 6 j.toNat)) → 0 ≤ (mN M23) ∧ C G Y_X7_init (d - 1) 5 1227 [vA (mN M23)] M24 (rU (fun M26 => okO M26 x0 10 ∧ ∀ M28, M28 = wr M26 x0 8 (mN M23) → ∀ M29, M29 = al M28 0 (kN 0) (fun j => dV (fT 0 j.toNat)) → okO M29 x0 10 ∧ 0 ≤ (mN M28) ∧ C G Y_X0_init (d - 1) 2 71 [vA (mN M28), vA (rd M29 x0 0)] M29 (rU (fun M32 => okO M32 x0 10 ∧ ∀ M34, M34 = wr M32 x0 9 (mN M28) → ∀ M35, M35 = al M34 7 (kN 7) (fun j => dV (fT 7 j.toNat)) → okO M35 x0 10 ∧ 0 ≤ (mN M34) ∧ C G Y_X8_init (d - 1) 4 6423 [vA (mN M34), vA (rd M35 x0 0), vA (rd M35 x0 9)] M35 (rU (fun M38 => okO M38 x0 10 ∧ ∀ M40, M40 = wr M38 x0 10 (mN M34) → ∀ M41, M41 = al M40 2 (kN 2) (fun j => dV (fT 2 j.toNat)) → okO M41 x0 10 ∧ 0 ≤ (mN M40) ∧ C G Y_X3_init (d - 1) 8 21477 [vA (mN M40), vA (rd M41 x0 0), vA (rd M41 x0 10)] M41 (rU (fun M44 => okO M44 x0 10 ∧ ∀ M46, M46 = wr M44 x0 11 (mN M40) → ∀ M47, M47 = al M46 5 (kN 5) (fun j => dV (fT 5 j.toNat)) → okO M47 x0 10 ∧ 0 ≤ (mN M46) ∧ C G Y_X6_init (d - 1) 11 21634 [vA (mN M46), vA (rd M47 x0 0), vA (rd M47 x0 10), vA (rd M47 x0 11)] M47 (rU (fun M50 => okO M50 x0 10 ∧ ∀ M52, M52 = wr M50 x0 12 (mN M46) → ∀ M53, M53 = al M52 1 (kN 1) (fun j => dV (fT 1 j.toNat)) → okO M53 x0 10 ∧ 0 ≤ (mN M52) ∧ C G Y_X1_init (d - 1) 7 222 [vA (mN M52), vA (rd M53 x0 0), vA (rd M53 x0 9)] M53 (rU (fun M56 => okO M56 x0 10 ∧ ∀ M58, M58 = wr M56 x0 13 (mN M52) → ∀ M59, M59 = al M58 9 (kN 9) (fun j => dV (fT 9 j.toNat)) → okO M59 x0 10 ∧ 0 ≤ (mN M58) ∧ C G Y_X10_init (d - 1) 3 15 [vA (mN M58), vA (rd M59 x0 0), vA (rd M59 x0 10), vA (rd M59 x0 11)] M59 (rU (fun M62 => okO M62 x0 10 ∧ ∀ M64, M64 = wr M62 x0 14 (mN M58) → ∀ M65, M65 = al M64 9 (kN 9) (fun j => dV (fT 9 j.toNat)) → okO M65 x0 10 ∧ 0 ≤ (mN M64) ∧ C G Y_X10_init (d - 1) 3 15 [vA (mN M64), vA (rd M65 x0 0), vA (rd M65 x0 10), vA (rd M65 x0 11)] M65 (rU (fun M68 => okO M68 x0 10 ∧ ∀ M70, M70 = wr M68 x0 15 (mN M64) → Q vU M70))))))))))))))))))) : X G Y_X11_init d 66 51625 0 [vA x0] [] M Q := by
  have hd1 : 1 ≤ d := by omega
  refine x_aload_n (dA D_X11_init 0 rfl) rfl ?_
  obtain ⟨h1, h⟩ := h
  refine x_oinit [] (dA D_X11_init 1 rfl) ⟨ml_RX11_3, w_oi, w_oc⟩ (by decide) hd1 h1 ?_
  refine x_aload_n (dA D_X11_init 2 rfl) rfl ?_
  refine x_new (k := 65) (n := 51608) (dA D_X11_init 3 rfl) nw_RX11_9 (by decide) ?_
  refine x_nmM (fun M2 eM2 => ?_)
  have h := h M2 eM2
  refine x_dup (dA D_X11_init 4 rfl) rfl ?_
  obtain ⟨h3, h⟩ := h
  refine x_callIN [] [vA (mN M), vA x0] (dA D_X11_init 5 rfl) cw_RX11_11 rfl rfl (Nat.le_of_ble_eq_true rfl) hd1 (k := 54) (n := 51562) (by decide) (by decide) h3 h (kU (fun M4 h => ?_))
  obtain ⟨h5, h⟩ := h
  refine x_put (x := mN M) (dA D_X11_init 6 rfl) fw_RX11_12 (fun _ _ hc => by cases hc; exact Or.inr ⟨rfl, rfl⟩) h5 rfl (nar_ref _ _ _ (by first | exact Or.inl ⟨_, rfl⟩ | exact Or.inr ⟨_, rfl⟩)) (fit_ref _ _ _ (by first | exact Or.inl ⟨_, rfl⟩ | exact Or.inr ⟨_, rfl⟩)) ?_
  refine x_nmM (fun M6 eM6 => ?_)
  have h := h M6 eM6
  refine x_aload_n (dA D_X11_init 7 rfl) rfl ?_
  refine x_iconst (dA D_X11_init 8 rfl) ?_
  refine x_newq (k := 53) (n := 51560) (N := 2) (Or.inl ⟨rfl, rfl⟩) (dA D_X11_init 9 rfl) kw_RX11_9 (by decide) (by decide) ?_
  refine x_nmM (fun M7 eM7 => ?_)
  have h := h M7 eM7
  obtain ⟨h8, h⟩ := h
  refine x_put (x := mN M6) (dA D_X11_init 10 rfl) fw_RX11_16 (fun _ _ hc => by cases hc; exact Or.inr ⟨rfl, rfl⟩) h8 rfl (nar_ref _ _ _ (by first | exact Or.inl ⟨_, rfl⟩ | exact Or.inr ⟨_, rfl⟩)) (fit_ref _ _ _ (by first | exact Or.inl ⟨_, rfl⟩ | exact Or.inr ⟨_, rfl⟩)) ?_
  refine x_nmM (fun M9 eM9 => ?_)
  have h := h M9 eM9
  refine x_aload_n (dA D_X11_init 11 rfl) rfl ?_
  refine x_sipush (dA D_X11_init 12 rfl) (by decide) (by decide) ?_
  refine x_newa (k := 52) (n := 51160) (N := 400) (Or.inl ⟨rfl, rfl⟩) (dA D_X11_init 13 rfl) ac_int (by decide) (by decide) ?_
  refine x_nmM (fun M10 eM10 => ?_)
  have h := h M10 eM10
  obtain ⟨h11, h⟩ := h
  refine x_put (x := mN M9) (dA D_X11_init 14 rfl) fw_RX11_20 (fun _ _ hc => by cases hc; exact Or.inr ⟨rfl, rfl⟩) h11 rfl (nar_ref _ _ _ (by first | exact Or.inl ⟨_, rfl⟩ | exact Or.inr ⟨_, rfl⟩)) (fit_ref _ _ _ (by first | exact Or.inl ⟨_, rfl⟩ | exact Or.inr ⟨_, rfl⟩)) ?_
  refine x_nmM (fun M12 eM12 => ?_)
  have h := h M12 eM12
  refine x_aload_n (dA D_X11_init 15 rfl) rfl ?_
  refine x_iconst (dA D_X11_init 16 rfl) ?_
  obtain ⟨h13, h⟩ := h
  refine x_put (x := 0) (dA D_X11_init 17 rfl) fw_RX11_24 (fun _ _ hc => by cases hc; exact Or.inr ⟨rfl, rfl⟩) h13 rfl rfl rfl ?_
  refine x_nmM (fun M14 eM14 => ?_)
  have h := h M14 eM14
  refine x_aload_n (dA D_X11_init 18 rfl) rfl ?_
  refine x_iconst (dA D_X11_init 19 rfl) ?_
  obtain ⟨h15, h⟩ := h
  refine x_put (x := 0) (dA D_X11_init 20 rfl) fw_RX11_28 (fun _ _ hc => by cases hc; exact Or.inr ⟨rfl, rfl⟩) h15 rfl rfl rfl ?_
  refine x_nmM (fun M16 eM16 => ?_)
  have h := h M16 eM16
  refine x_aload_n (dA D_X11_init 21 rfl) rfl ?_
  refine x_iconst (dA D_X11_init 22 rfl) ?_
  obtain ⟨h17, h⟩ := h
  refine x_put (x := (-1)) (dA D_X11_init 23 rfl) fw_RX11_31 (fun _ _ hc => by cases hc; exact Or.inr ⟨rfl, rfl⟩) h17 rfl rfl rfl ?_
  refine x_nmM (fun M18 eM18 => ?_)
  have h := h M18 eM18
  refine x_aload_n (dA D_X11_init 24 rfl) rfl ?_
  refine x_iconst (dA D_X11_init 25 rfl) ?_
  refine x_newa (k := 51) (n := 51155) (N := 5) (Or.inl ⟨rfl, rfl⟩) (dA D_X11_init 26 rfl) ac_int (by decide) (by decide) ?_
  refine x_nmM (fun M19 eM19 => ?_)
  have h := h M19 eM19
  obtain ⟨h20, h⟩ := h
  refine x_put (x := mN M18) (dA D_X11_init 27 rfl) fw_RX11_34 (fun _ _ hc => by cases hc; exact Or.inr ⟨rfl, rfl⟩) h20 rfl (nar_ref _ _ _ (by first | exact Or.inl ⟨_, rfl⟩ | exact Or.inr ⟨_, rfl⟩)) (fit_ref _ _ _ (by first | exact Or.inl ⟨_, rfl⟩ | exact Or.inr ⟨_, rfl⟩)) ?_
  refine x_nmM (fun M21 eM21 => ?_)
  have h := h M21 eM21
  refine x_aload_n (dA D_X11_init 28 rfl) rfl ?_
  refine x_iconst (dA D_X11_init 29 rfl) ?_
  obtain ⟨h22, h⟩ := h
  refine x_put (x := 0) (dA D_X11_init 30 rfl) fw_RX11_37 (fun _ _ hc => by cases hc; exact Or.inr ⟨rfl, rfl⟩) h22 rfl rfl rfl ?_
  refine x_nmM (fun M23 eM23 => ?_)
  have h := h M23 eM23
  refine x_aload_n (dA D_X11_init 31 rfl) rfl ?_
  refine x_new (k := 50) (n := 51146) (dA D_X11_init 32 rfl) nw_RX11_40 (by decide) ?_
  refine x_nmM (fun M24 eM24 => ?_)
  have h := h M24 eM24
  refine x_dup (dA D_X11_init 33 rfl) rfl ?_
  obtain ⟨h25, h⟩ := h
  refine x_callIN [] [vA (mN M23), vA x0] (dA D_X11_init 34 rfl) cw_RX11_42 rfl rfl (Nat.le_of_ble_eq_true rfl) hd1 (k := 45) (n := 49919) (by decide) (by decide) h25 h (kU (fun M26 h => ?_))
  obtain ⟨h27, h⟩ := h
  refine x_put (x := mN M23) (dA D_X11_init 35 rfl) fw_RX11_43 (fun _ _ hc => by cases hc; exact Or.inr ⟨rfl, rfl⟩) h27 rfl (nar_ref _ _ _ (by first | exact Or.inl ⟨_, rfl⟩ | exact Or.inr ⟨_, rfl⟩)) (fit_ref _ _ _ (by first | exact Or.inl ⟨_, rfl⟩ | exact Or.inr ⟨_, rfl⟩)) ?_
  refine x_nmM (fun M28 eM28 => ?_)
  have h := h M28 eM28
  refine x_aload_n (dA D_X11_init 36 rfl) rfl ?_
  refine x_new (k := 44) (n := 49916) (dA D_X11_init 37 rfl) nw_RX11_47 (by decide) ?_
  refine x_nmM (fun M29 eM29 => ?_)
  have h := h M29 eM29
  refine x_dup (dA D_X11_init 38 rfl) rfl ?_
  refine x_aload_n (dA D_X11_init 39 rfl) rfl ?_
  obtain ⟨h30, h⟩ := h
  refine x_get (v := vA (rd M29 x0 0)) (dA D_X11_init 40 rfl) fw_RX11_12 h30 rfl ?_
  obtain ⟨h31, h⟩ := h
  refine x_callI [vA (rd M29 x0 0)] [vA (mN M28), vA x0] (dA D_X11_init 41 rfl) cw_RX11_49 rfl rfl (Nat.le_of_ble_eq_true rfl) hd1 (k := 42) (n := 49845) (by decide) (by decide) h31 h (kU (fun M32 h => ?_))
  obtain ⟨h33, h⟩ := h
  refine x_put (x := mN M28) (dA D_X11_init 42 rfl) fw_RX11_52 (fun _ _ hc => by cases hc; exact Or.inr ⟨rfl, rfl⟩) h33 rfl (nar_ref _ _ _ (by first | exact Or.inl ⟨_, rfl⟩ | exact Or.inr ⟨_, rfl⟩)) (fit_ref _ _ _ (by first | exact Or.inl ⟨_, rfl⟩ | exact Or.inr ⟨_, rfl⟩)) ?_
  refine x_nmM (fun M34 eM34 => ?_)
  have h := h M34 eM34
  refine x_aload_n (dA D_X11_init 43 rfl) rfl ?_
  refine x_new (k := 41) (n := 49838) (dA D_X11_init 44 rfl) nw_RX11_56 (by decide) ?_
  refine x_nmM (fun M35 eM35 => ?_)
  have h := h M35 eM35
  refine x_dup (dA D_X11_init 45 rfl) rfl ?_
  refine x_aload_n (dA D_X11_init 46 rfl) rfl ?_
  obtain ⟨h36, h⟩ := h
  refine x_get (v := vA (rd M35 x0 0)) (dA D_X11_init 47 rfl) fw_RX11_12 h36 rfl ?_
  refine x_aload_n (dA D_X11_init 48 rfl) rfl ?_
  refine x_get (v := vA (rd M35 x0 9)) (dA D_X11_init 49 rfl) fw_RX11_52 h36 rfl ?_
  obtain ⟨h37, h⟩ := h
  refine x_callI [vA (rd M35 x0 0), vA (rd M35 x0 9)] [vA (mN M34), vA x0] (dA D_X11_init 50 rfl) cw_RX11_58 rfl rfl (Nat.le_of_ble_eq_true rfl) hd1 (k := 37) (n := 43415) (by decide) (by decide) h37 h (kU (fun M38 h => ?_))
  obtain ⟨h39, h⟩ := h
  refine x_put (x := mN M34) (dA D_X11_init 51 rfl) fw_RX11_61 (fun _ _ hc => by cases hc; exact Or.inr ⟨rfl, rfl⟩) h39 rfl (nar_ref _ _ _ (by first | exact Or.inl ⟨_, rfl⟩ | exact Or.inr ⟨_, rfl⟩)) (fit_ref _ _ _ (by first | exact Or.inl ⟨_, rfl⟩ | exact Or.inr ⟨_, rfl⟩)) ?_
  refine x_nmM (fun M40 eM40 => ?_)
  have h := h M40 eM40
  refine x_aload_n (dA D_X11_init 52 rfl) rfl ?_
  refine x_new (k := 36) (n := 43410) (dA D_X11_init 53 rfl) nw_RX11_65 (by decide) ?_
  refine x_nmM (fun M41 eM41 => ?_)
  have h := h M41 eM41
  refine x_dup (dA D_X11_init 54 rfl) rfl ?_
  refine x_aload_n (dA D_X11_init 55 rfl) rfl ?_
  obtain ⟨h42, h⟩ := h
  refine x_get (v := vA (rd M41 x0 0)) (dA D_X11_init 56 rfl) fw_RX11_12 h42 rfl ?_
  refine x_aload_n (dA D_X11_init 57 rfl) rfl ?_
  refine x_get (v := vA (rd M41 x0 10)) (dA D_X11_init 58 rfl) fw_RX11_61 h42 rfl ?_
  obtain ⟨h43, h⟩ := h
  refine x_callI [vA (rd M41 x0 0), vA (rd M41 x0 10)] [vA (mN M40), vA x0] (dA D_X11_init 59 rfl) cw_RX11_67 rfl rfl (Nat.le_of_ble_eq_true rfl) hd1 (k := 28) (n := 21933) (by decide) (by decide) h43 h (kU (fun M44 h => ?_))
  obtain ⟨h45, h⟩ := h
  refine x_put (x := mN M40) (dA D_X11_init 60 rfl) fw_RX11_70 (fun _ _ hc => by cases hc; exact Or.inr ⟨rfl, rfl⟩) h45 rfl (nar_ref _ _ _ (by first | exact Or.inl ⟨_, rfl⟩ | exact Or.inr ⟨_, rfl⟩)) (fit_ref _ _ _ (by first | exact Or.inl ⟨_, rfl⟩ | exact Or.inr ⟨_, rfl⟩)) ?_
  refine x_nmM (fun M46 eM46 => ?_)
  have h := h M46 eM46
  refine x_aload_n (dA D_X11_init 61 rfl) rfl ?_
  refine x_new (k := 27) (n := 21921) (dA D_X11_init 62 rfl) nw_RX11_74 (by decide) ?_
  refine x_nmM (fun M47 eM47 => ?_)
  have h := h M47 eM47
  refine x_dup (dA D_X11_init 63 rfl) rfl ?_
  refine x_aload_n (dA D_X11_init 64 rfl) rfl ?_
  obtain ⟨h48, h⟩ := h
  refine x_get (v := vA (rd M47 x0 0)) (dA D_X11_init 65 rfl) fw_RX11_12 h48 rfl ?_
  refine x_aload_n (dA D_X11_init 66 rfl) rfl ?_
  refine x_get (v := vA (rd M47 x0 10)) (dA D_X11_init 67 rfl) fw_RX11_61 h48 rfl ?_
  refine x_aload_n (dA D_X11_init 68 rfl) rfl ?_
  refine x_get (v := vA (rd M47 x0 11)) (dA D_X11_init 69 rfl) fw_RX11_70 h48 rfl ?_
  obtain ⟨h49, h⟩ := h
  refine x_callI [vA (rd M47 x0 0), vA (rd M47 x0 10), vA (rd M47 x0 11)] [vA (mN M46), vA x0] (dA D_X11_init 70 rfl) cw_RX11_76 rfl rfl (Nat.le_of_ble_eq_true rfl) hd1 (k := 16) (n := 287) (by decide) (by decide) h49 h (kU (fun M50 h => ?_))
  obtain ⟨h51, h⟩ := h
  refine x_put (x := mN M46) (dA D_X11_init 71 rfl) fw_RX11_79 (fun _ _ hc => by cases hc; exact Or.inr ⟨rfl, rfl⟩) h51 rfl (nar_ref _ _ _ (by first | exact Or.inl ⟨_, rfl⟩ | exact Or.inr ⟨_, rfl⟩)) (fit_ref _ _ _ (by first | exact Or.inl ⟨_, rfl⟩ | exact Or.inr ⟨_, rfl⟩)) ?_
  refine x_nmM (fun M52 eM52 => ?_)
  have h := h M52 eM52
  refine x_aload_n (dA D_X11_init 72 rfl) rfl ?_
  refine x_new (k := 15) (n := 278) (dA D_X11_init 73 rfl) nw_RX11_83 (by decide) ?_
  refine x_nmM (fun M53 eM53 => ?_)
  have h := h M53 eM53
  refine x_dup (dA D_X11_init 74 rfl) rfl ?_
  refine x_aload_n (dA D_X11_init 75 rfl) rfl ?_
  obtain ⟨h54, h⟩ := h
  refine x_get (v := vA (rd M53 x0 0)) (dA D_X11_init 76 rfl) fw_RX11_12 h54 rfl ?_
  refine x_aload_n (dA D_X11_init 77 rfl) rfl ?_
  refine x_get (v := vA (rd M53 x0 9)) (dA D_X11_init 78 rfl) fw_RX11_52 h54 rfl ?_
  obtain ⟨h55, h⟩ := h
  refine x_callI [vA (rd M53 x0 0), vA (rd M53 x0 9)] [vA (mN M52), vA x0] (dA D_X11_init 79 rfl) cw_RX11_85 rfl rfl (Nat.le_of_ble_eq_true rfl) hd1 (k := 8) (n := 56) (by decide) (by decide) h55 h (kU (fun M56 h => ?_))
  obtain ⟨h57, h⟩ := h
  refine x_put (x := mN M52) (dA D_X11_init 80 rfl) fw_RX11_86 (fun _ _ hc => by cases hc; exact Or.inr ⟨rfl, rfl⟩) h57 rfl (nar_ref _ _ _ (by first | exact Or.inl ⟨_, rfl⟩ | exact Or.inr ⟨_, rfl⟩)) (fit_ref _ _ _ (by first | exact Or.inl ⟨_, rfl⟩ | exact Or.inr ⟨_, rfl⟩)) ?_
  refine x_nmM (fun M58 eM58 => ?_)
  have h := h M58 eM58
  refine x_aload_n (dA D_X11_init 81 rfl) rfl ?_
  refine x_new (k := 7) (n := 43) (dA D_X11_init 82 rfl) nw_RX11_90 (by decide) ?_
  refine x_nmM (fun M59 eM59 => ?_)
  have h := h M59 eM59
  refine x_dup (dA D_X11_init 83 rfl) rfl ?_
  refine x_aload_n (dA D_X11_init 84 rfl) rfl ?_
  obtain ⟨h60, h⟩ := h
  refine x_get (v := vA (rd M59 x0 0)) (dA D_X11_init 85 rfl) fw_RX11_12 h60 rfl ?_
  refine x_aload_n (dA D_X11_init 86 rfl) rfl ?_
  refine x_get (v := vA (rd M59 x0 10)) (dA D_X11_init 87 rfl) fw_RX11_61 h60 rfl ?_
  refine x_aload_n (dA D_X11_init 88 rfl) rfl ?_
  refine x_get (v := vA (rd M59 x0 11)) (dA D_X11_init 89 rfl) fw_RX11_70 h60 rfl ?_
  obtain ⟨h61, h⟩ := h
  refine x_callI [vA (rd M59 x0 0), vA (rd M59 x0 10), vA (rd M59 x0 11)] [vA (mN M58), vA x0] (dA D_X11_init 90 rfl) cw_RX11_92 rfl rfl (Nat.le_of_ble_eq_true rfl) hd1 (k := 4) (n := 28) (by decide) (by decide) h61 h (kU (fun M62 h => ?_))
  obtain ⟨h63, h⟩ := h
  refine x_put (x := mN M58) (dA D_X11_init 91 rfl) fw_RX11_93 (fun _ _ hc => by cases hc; exact Or.inr ⟨rfl, rfl⟩) h63 rfl (nar_ref _ _ _ (by first | exact Or.inl ⟨_, rfl⟩ | exact Or.inr ⟨_, rfl⟩)) (fit_ref _ _ _ (by first | exact Or.inl ⟨_, rfl⟩ | exact Or.inr ⟨_, rfl⟩)) ?_
  refine x_nmM (fun M64 eM64 => ?_)
  have h := h M64 eM64
  refine x_aload_n (dA D_X11_init 92 rfl) rfl ?_
  refine x_new (k := 3) (n := 15) (dA D_X11_init 93 rfl) nw_RX11_90 (by decide) ?_
  refine x_nmM (fun M65 eM65 => ?_)
  have h := h M65 eM65
  refine x_dup (dA D_X11_init 94 rfl) rfl ?_
  refine x_aload_n (dA D_X11_init 95 rfl) rfl ?_
  obtain ⟨h66, h⟩ := h
  refine x_get (v := vA (rd M65 x0 0)) (dA D_X11_init 96 rfl) fw_RX11_12 h66 rfl ?_
  refine x_aload_n (dA D_X11_init 97 rfl) rfl ?_
  refine x_get (v := vA (rd M65 x0 10)) (dA D_X11_init 98 rfl) fw_RX11_61 h66 rfl ?_
  refine x_aload_n (dA D_X11_init 99 rfl) rfl ?_
  refine x_get (v := vA (rd M65 x0 11)) (dA D_X11_init 100 rfl) fw_RX11_70 h66 rfl ?_
  obtain ⟨h67, h⟩ := h
  refine x_callI [vA (rd M65 x0 0), vA (rd M65 x0 10), vA (rd M65 x0 11)] [vA (mN M64), vA x0] (dA D_X11_init 101 rfl) cw_RX11_92 rfl rfl (Nat.le_of_ble_eq_true rfl) hd1 (k := 0) (n := 0) (by decide) (by decide) h67 h (kU (fun M68 h => ?_))
  obtain ⟨h69, h⟩ := h
  refine x_put (x := mN M64) (dA D_X11_init 102 rfl) fw_RX11_97 (fun _ _ hc => by cases hc; exact Or.inr ⟨rfl, rfl⟩) h69 rfl (nar_ref _ _ _ (by first | exact Or.inl ⟨_, rfl⟩ | exact Or.inr ⟨_, rfl⟩)) (fit_ref _ _ _ (by first | exact Or.inl ⟨_, rfl⟩ | exact Or.inr ⟨_, rfl⟩)) ?_
  refine x_nmM (fun M70 eM70 => ?_)
  have h := h M70 eM70
  exact x_return (dA D_X11_init 103 rfl) rfl h
theorem C_X11_init {G : GG} {d : Nat} {x0 : Int} {M : MM} {Q : PV → MM → Prop} (h : X G Y_X11_init d 66 51625 0 [vA x0] [] M Q) : C G Y_X11_init d 66 51625 [vA x0] M Q := X.entry (by decide) (Nat.le_of_ble_eq_true rfl) rfl rfl rfl h
set_option maxRecDepth 100000 in
theorem B_X12_init_0 {G : GG} {d : Nat} {x0 : Int} {M : MM} {Q : PV → MM → Prop} (hd : 1 ≤ d) (h : 0 ≤ x0 ∧ ∀ M2, M2 = al M 20 7 (fun _ => 0) → okO M2 x0 11 ∧ ∀ M4, M4 = wr M2 x0 2 (mN M) → ∀ M5, M5 = al M4 20 5460 (fun _ => 0) → okO M5 x0 11 ∧ ∀ M7, M7 = wr M5 x0 3 (mN M4) → ∀ M8, M8 = al M7 20 10920 (fun _ => 0) → okO M8 x0 11 ∧ ∀ M10, M10 = wr M8 x0 4 (mN M7) → ∀ M11, M11 = al M10 22 2 (fun _ => 0) → okO M11 x0 11 ∧ ∀ M13, M13 = wr M11 x0 5 (mN M10) → ∀ M14, M14 = al M13 20 400 (fun _ => 0) → okO M14 x0 11 ∧ ∀ M16, M16 = wr M14 x0 7 (mN M13) → okO M16 x0 11 ∧ ∀ M18, M18 = wr M16 x0 13 (-1) → ∀ M19, M19 = al M18 20 96 (fun _ => 0) → okO M19 x0 11 ∧ ∀ M21, M21 = wr M19 x0 16 (mN M18) → ∀ M22, M22 = al M21 20 400 (fun _ => 0) → okO M22 x0 11 ∧ ∀ M24, M24 = wr M22 x0 18 (mN M21) → ∀ M25, M25 = al M24 20 400 (fun _ => 0) → okO M25 x0 11 ∧ ∀ M27, M27 = wr M25 x0 19 (mN M24) → ∀ M28, M28 = al M27 20 400 (fun _ => 0) → okO M28 x0 11 ∧ ∀ M30, M30 = wr M28 x0 21 (mN M27) → ∀ M31, M31 = al M30 20 400 (fun _ => 0) → okO M31 x0 11 ∧ ∀ M33, M33 = wr M31 x0 22 (mN M30) → ∀ M34, M34 = al M33 21 7 (fun _ => 0) → okA M34 (mN M33) 21 0 ∧ ∀ M36, M36 = wr M34 (mN M33) 0 638548 → okA M36 (mN M33) 21 1 ∧ ∀ M38, M38 = wr M36 (mN M33) 1 20026821 → okA M38 (mN M33) 21 2 ∧ ∀ M40, M40 = wr M38 (mN M33) 2 72564293 → okA M40 (mN M33) 21 3 ∧ ∀ M42, M42 = wr M40 (mN M33) 3 8553619 → okA M42 (mN M33) 21 4 ∧ ∀ M44, M44 = wr M42 (mN M33) 4 16110 → okA M44 (mN M33) 21 5 ∧ ∀ M46, M46 = wr M44 (mN M33) 5 446125701 → okA M46 (mN M33) 21 6 ∧ ∀ M48, M48 = wr M46 (mN M33) 6 549512356 → okO M48 x0 11 ∧ ∀ M50, M50 = wr M48 x0 25 (mN M33) → ∀ M51, M51 = al M50 21 13 (fun _ => 0) → okO M51 x0 11 ∧ ∀ M53, M53 = wr M51 x0 27 (mN M50) → ∀ M54, M54 = al M53 21 400 (fun _ => 0) → okO M54 x0 11 ∧ ∀ M56, M56 = wr M54 x0 28 (mN M53) → ∀ M57, M57 = al M56 21 96768 (fun _ => 0) → okO M57 x0 11 ∧ ∀ M59, M59 = wr M57 x0 32 (mN M56) → ∀ M60, M60 = al M59 20 6912 (fun _ => 0) → okO M60 x0 11 ∧ ∀ M62, M62 = wr M60 x0 33 (mN M59) → ∀ M63, M63 = al M62 21 14 (fun _ => 0) → okO M63 x0 11 ∧ ∀ M65, M65 = wr M63 x0 34 (mN M62) → ∀ M66, M66 = al M65 21 14 (fun _ => 0) → okO M66 x0 11 ∧ ∀ M68, M68 = wr M66 x0 35 (mN M65) → ∀ M69, M69 = al M68 21 14 (fun _ => 0) → okO M69 x0 11 ∧ ∀ M71, M71 = wr M69 x0 36 (mN M68) → ∀ M72, M72 = al M71 21 14 (fun _ => 0) → okO M72 x0 11 ∧ ∀ M74, M74 = wr M72 x0 37 (mN M71) → ∀ M75, M75 = al M74 21 72 (fun _ => 0) → okO M75 x0 11 ∧ ∀ M77, M77 = wr M75 x0 38 (mN M74) → okO M77 x0 11 ∧ ∀ M79, M79 = wr M77 x0 39 (-1) → ∀ M80, M80 = al M79 20 5 (fun _ => 0) → okO M80 x0 11 ∧ ∀ M82, M82 = wr M80 x0 40 (mN M79) → ∀ M83, M83 = al M82 20 5 (fun _ => 0) → okO M83 x0 11 ∧ ∀ M85, M85 = wr M83 x0 42 (mN M82) → ∀ M86, M86 = al M85 21 504 (fun _ => 0) → okO M86 x0 11 ∧ ∀ M88, M88 = wr M86 x0 45 (mN M85) → ∀ M89, M89 = al M88 21 504 (fun _ => 0) → okO M89 x0 11 ∧ ∀ M91, M91 = wr M89 x0 46 (mN M88) → ∀ M92, M92 = al M91 20 15 (fun _ => 0) → okO M92 x0 11 ∧ ∀ M94, M94 = wr M92 x0 49 (mN M91) → okO M94 x0 11 ∧ ∀ M96, M96 = wr M94 x0 52 (-1) → ∀ M97, M97 = al M96 20 15 (fun _ => 0) → okO M97 x0 11 ∧ ∀ M99, M99 = wr M97 x0 53 (mN M96) → okO M99 x0 11 ∧ okA M99 (rd M99 x0 3) 20 2 ∧ ∀ M102, M102 = wr M99 (rd M99 x0 3) 2 (-1) → okO M102 x0 11 ∧ okA M102 (rd M102 x0 3) 20 5 ∧ ∀ M105, M105 = wr M102 (rd M102 x0 3) 5 (-1) → okO M105 x0 11 ∧ okA M105 (rd M105 x0 3) 20 31 ∧ ∀ M108, M108 = wr M105 (rd M105 x0 3) 31 1 → okO M108 x0 11 ∧ okA M108 (rd M108 x0 3) 20 34 ∧ ∀ M111, M111 = wr M108 (rd M108 x0 3) 34 1 → okO M111 x0 11 ∧ okA M111 (rd M111 x0 3) 20 40 ∧ ∀ M114, M114 = wr M111 (rd M111 x0 3) 40 1 → okO M114 x0 11 ∧ okA M114 (rd M114 x0 3) 20 42 ∧ ∀ M117, M117 = wr M114 (rd M114 x0 3) 42 120 → Q vU M117) : X G Y_X12_init d 26 123761 0 [vA x0] [] M Q := by
  have hd1 : 1 ≤ d := by omega
  refine x_aload_n (dA D_X12_init 0 rfl) rfl ?_
  obtain ⟨h1, h⟩ := h
  refine x_oinit [] (dA D_X12_init 1 rfl) ⟨ml_RX12_1, w_oi, w_oc⟩ (by decide) hd1 h1 ?_
  refine x_aload_n (dA D_X12_init 2 rfl) rfl ?_
  refine x_bipush (dA D_X12_init 3 rfl) (by decide) (by decide) ?_
  refine x_newa (k := 25) (n := 123754) (N := 7) (Or.inl ⟨rfl, rfl⟩) (dA D_X12_init 4 rfl) ac_int (by decide) (by decide) ?_
  refine x_nmM (fun M2 eM2 => ?_)
  have h := h M2 eM2
  obtain ⟨h3, h⟩ := h
  refine x_put (x := mN M) (dA D_X12_init 5 rfl) fw_RX12_7 (fun _ _ hc => by cases hc; exact Or.inr ⟨rfl, rfl⟩) h3 rfl (nar_ref _ _ _ (by first | exact Or.inl ⟨_, rfl⟩ | exact Or.inr ⟨_, rfl⟩)) (fit_ref _ _ _ (by first | exact Or.inl ⟨_, rfl⟩ | exact Or.inr ⟨_, rfl⟩)) ?_
  refine x_nmM (fun M4 eM4 => ?_)
  have h := h M4 eM4
  refine x_aload_n (dA D_X12_init 6 rfl) rfl ?_
  refine x_sipush (dA D_X12_init 7 rfl) (by decide) (by decide) ?_
  refine x_newa (k := 24) (n := 118294) (N := 5460) (Or.inl ⟨rfl, rfl⟩) (dA D_X12_init 8 rfl) ac_int (by decide) (by decide) ?_
  refine x_nmM (fun M5 eM5 => ?_)
  have h := h M5 eM5
  obtain ⟨h6, h⟩ := h
  refine x_put (x := mN M4) (dA D_X12_init 9 rfl) fw_RX12_13 (fun _ _ hc => by cases hc; exact Or.inr ⟨rfl, rfl⟩) h6 rfl (nar_ref _ _ _ (by first | exact Or.inl ⟨_, rfl⟩ | exact Or.inr ⟨_, rfl⟩)) (fit_ref _ _ _ (by first | exact Or.inl ⟨_, rfl⟩ | exact Or.inr ⟨_, rfl⟩)) ?_
  refine x_nmM (fun M7 eM7 => ?_)
  have h := h M7 eM7
  refine x_aload_n (dA D_X12_init 10 rfl) rfl ?_
  refine x_sipush (dA D_X12_init 11 rfl) (by decide) (by decide) ?_
  refine x_newa (k := 23) (n := 107374) (N := 10920) (Or.inl ⟨rfl, rfl⟩) (dA D_X12_init 12 rfl) ac_int (by decide) (by decide) ?_
  refine x_nmM (fun M8 eM8 => ?_)
  have h := h M8 eM8
  obtain ⟨h9, h⟩ := h
  refine x_put (x := mN M7) (dA D_X12_init 13 rfl) fw_RX12_16 (fun _ _ hc => by cases hc; exact Or.inr ⟨rfl, rfl⟩) h9 rfl (nar_ref _ _ _ (by first | exact Or.inl ⟨_, rfl⟩ | exact Or.inr ⟨_, rfl⟩)) (fit_ref _ _ _ (by first | exact Or.inl ⟨_, rfl⟩ | exact Or.inr ⟨_, rfl⟩)) ?_
  refine x_nmM (fun M10 eM10 => ?_)
  have h := h M10 eM10
  refine x_aload_n (dA D_X12_init 14 rfl) rfl ?_
  refine x_iconst (dA D_X12_init 15 rfl) ?_
  refine x_newa (k := 22) (n := 107372) (N := 2) (Or.inr (Or.inr ⟨rfl, rfl⟩)) (dA D_X12_init 16 rfl) ac_boolean (by decide) (by decide) ?_
  refine x_nmM (fun M11 eM11 => ?_)
  have h := h M11 eM11
  obtain ⟨h12, h⟩ := h
  refine x_put (x := mN M10) (dA D_X12_init 17 rfl) fw_RX12_19 (fun _ _ hc => by cases hc; exact Or.inr ⟨rfl, rfl⟩) h12 rfl (nar_ref _ _ _ (by first | exact Or.inl ⟨_, rfl⟩ | exact Or.inr ⟨_, rfl⟩)) (fit_ref _ _ _ (by first | exact Or.inl ⟨_, rfl⟩ | exact Or.inr ⟨_, rfl⟩)) ?_
  refine x_nmM (fun M13 eM13 => ?_)
  have h := h M13 eM13
  refine x_aload_n (dA D_X12_init 18 rfl) rfl ?_
  refine x_sipush (dA D_X12_init 19 rfl) (by decide) (by decide) ?_
  refine x_newa (k := 21) (n := 106972) (N := 400) (Or.inl ⟨rfl, rfl⟩) (dA D_X12_init 20 rfl) ac_int (by decide) (by decide) ?_
  refine x_nmM (fun M14 eM14 => ?_)
  have h := h M14 eM14
  obtain ⟨h15, h⟩ := h
  refine x_put (x := mN M13) (dA D_X12_init 21 rfl) fw_RX12_23 (fun _ _ hc => by cases hc; exact Or.inr ⟨rfl, rfl⟩) h15 rfl (nar_ref _ _ _ (by first | exact Or.inl ⟨_, rfl⟩ | exact Or.inr ⟨_, rfl⟩)) (fit_ref _ _ _ (by first | exact Or.inl ⟨_, rfl⟩ | exact Or.inr ⟨_, rfl⟩)) ?_
  refine x_nmM (fun M16 eM16 => ?_)
  have h := h M16 eM16
  refine x_aload_n (dA D_X12_init 22 rfl) rfl ?_
  refine x_iconst (dA D_X12_init 23 rfl) ?_
  obtain ⟨h17, h⟩ := h
  refine x_put (x := (-1)) (dA D_X12_init 24 rfl) fw_RX12_26 (fun _ _ hc => by cases hc; exact Or.inr ⟨rfl, rfl⟩) h17 rfl rfl rfl ?_
  refine x_nmM (fun M18 eM18 => ?_)
  have h := h M18 eM18
  refine x_aload_n (dA D_X12_init 25 rfl) rfl ?_
  refine x_bipush (dA D_X12_init 26 rfl) (by decide) (by decide) ?_
  refine x_newa (k := 20) (n := 106876) (N := 96) (Or.inl ⟨rfl, rfl⟩) (dA D_X12_init 27 rfl) ac_int (by decide) (by decide) ?_
  refine x_nmM (fun M19 eM19 => ?_)
  have h := h M19 eM19
  obtain ⟨h20, h⟩ := h
  refine x_put (x := mN M18) (dA D_X12_init 28 rfl) fw_RX12_30 (fun _ _ hc => by cases hc; exact Or.inr ⟨rfl, rfl⟩) h20 rfl (nar_ref _ _ _ (by first | exact Or.inl ⟨_, rfl⟩ | exact Or.inr ⟨_, rfl⟩)) (fit_ref _ _ _ (by first | exact Or.inl ⟨_, rfl⟩ | exact Or.inr ⟨_, rfl⟩)) ?_
  refine x_nmM (fun M21 eM21 => ?_)
  have h := h M21 eM21
  refine x_aload_n (dA D_X12_init 29 rfl) rfl ?_
  refine x_sipush (dA D_X12_init 30 rfl) (by decide) (by decide) ?_
  refine x_newa (k := 19) (n := 106476) (N := 400) (Or.inl ⟨rfl, rfl⟩) (dA D_X12_init 31 rfl) ac_int (by decide) (by decide) ?_
  refine x_nmM (fun M22 eM22 => ?_)
  have h := h M22 eM22
  obtain ⟨h23, h⟩ := h
  refine x_put (x := mN M21) (dA D_X12_init 32 rfl) fw_RX12_33 (fun _ _ hc => by cases hc; exact Or.inr ⟨rfl, rfl⟩) h23 rfl (nar_ref _ _ _ (by first | exact Or.inl ⟨_, rfl⟩ | exact Or.inr ⟨_, rfl⟩)) (fit_ref _ _ _ (by first | exact Or.inl ⟨_, rfl⟩ | exact Or.inr ⟨_, rfl⟩)) ?_
  refine x_nmM (fun M24 eM24 => ?_)
  have h := h M24 eM24
  refine x_aload_n (dA D_X12_init 33 rfl) rfl ?_
  refine x_sipush (dA D_X12_init 34 rfl) (by decide) (by decide) ?_
  refine x_newa (k := 18) (n := 106076) (N := 400) (Or.inl ⟨rfl, rfl⟩) (dA D_X12_init 35 rfl) ac_int (by decide) (by decide) ?_
  refine x_nmM (fun M25 eM25 => ?_)
  have h := h M25 eM25
  obtain ⟨h26, h⟩ := h
  refine x_put (x := mN M24) (dA D_X12_init 36 rfl) fw_RX12_36 (fun _ _ hc => by cases hc; exact Or.inr ⟨rfl, rfl⟩) h26 rfl (nar_ref _ _ _ (by first | exact Or.inl ⟨_, rfl⟩ | exact Or.inr ⟨_, rfl⟩)) (fit_ref _ _ _ (by first | exact Or.inl ⟨_, rfl⟩ | exact Or.inr ⟨_, rfl⟩)) ?_
  refine x_nmM (fun M27 eM27 => ?_)
  have h := h M27 eM27
  refine x_aload_n (dA D_X12_init 37 rfl) rfl ?_
  refine x_sipush (dA D_X12_init 38 rfl) (by decide) (by decide) ?_
  refine x_newa (k := 17) (n := 105676) (N := 400) (Or.inl ⟨rfl, rfl⟩) (dA D_X12_init 39 rfl) ac_int (by decide) (by decide) ?_
  refine x_nmM (fun M28 eM28 => ?_)
  have h := h M28 eM28
  obtain ⟨h29, h⟩ := h
  refine x_put (x := mN M27) (dA D_X12_init 40 rfl) fw_RX12_39 (fun _ _ hc => by cases hc; exact Or.inr ⟨rfl, rfl⟩) h29 rfl (nar_ref _ _ _ (by first | exact Or.inl ⟨_, rfl⟩ | exact Or.inr ⟨_, rfl⟩)) (fit_ref _ _ _ (by first | exact Or.inl ⟨_, rfl⟩ | exact Or.inr ⟨_, rfl⟩)) ?_
  refine x_nmM (fun M30 eM30 => ?_)
  have h := h M30 eM30
  refine x_aload_n (dA D_X12_init 41 rfl) rfl ?_
  refine x_sipush (dA D_X12_init 42 rfl) (by decide) (by decide) ?_
  refine x_newa (k := 16) (n := 105276) (N := 400) (Or.inl ⟨rfl, rfl⟩) (dA D_X12_init 43 rfl) ac_int (by decide) (by decide) ?_
  refine x_nmM (fun M31 eM31 => ?_)
  have h := h M31 eM31
  obtain ⟨h32, h⟩ := h
  refine x_put (x := mN M30) (dA D_X12_init 44 rfl) fw_RX12_42 (fun _ _ hc => by cases hc; exact Or.inr ⟨rfl, rfl⟩) h32 rfl (nar_ref _ _ _ (by first | exact Or.inl ⟨_, rfl⟩ | exact Or.inr ⟨_, rfl⟩)) (fit_ref _ _ _ (by first | exact Or.inl ⟨_, rfl⟩ | exact Or.inr ⟨_, rfl⟩)) ?_
  refine x_nmM (fun M33 eM33 => ?_)
  have h := h M33 eM33
  refine x_aload_n (dA D_X12_init 45 rfl) rfl ?_
  refine x_bipush (dA D_X12_init 46 rfl) (by decide) (by decide) ?_
  refine x_newa (k := 15) (n := 105269) (N := 7) (Or.inr (Or.inl ⟨rfl, rfl⟩)) (dA D_X12_init 47 rfl) ac_long (by decide) (by decide) ?_
  refine x_nmM (fun M34 eM34 => ?_)
  have h := h M34 eM34
  refine x_dup (dA D_X12_init 48 rfl) rfl ?_
  refine x_iconst (dA D_X12_init 49 rfl) ?_
  refine x_ldc2 (a := 638548) (dA D_X12_init 50 rfl) kl_RX12_45 (by decide) ?_
  obtain ⟨h35, h⟩ := h
  refine x_last (dA D_X12_init 51 rfl) h35 ?_
  refine x_nmM (fun M36 eM36 => ?_)
  have h := h M36 eM36
  refine x_dup (dA D_X12_init 52 rfl) rfl ?_
  refine x_iconst (dA D_X12_init 53 rfl) ?_
  refine x_ldc2 (a := 20026821) (dA D_X12_init 54 rfl) kl_RX12_47 (by decide) ?_
  obtain ⟨h37, h⟩ := h
  refine x_last (dA D_X12_init 55 rfl) h37 ?_
  refine x_nmM (fun M38 eM38 => ?_)
  have h := h M38 eM38
  refine x_dup (dA D_X12_init 56 rfl) rfl ?_
  refine x_iconst (dA D_X12_init 57 rfl) ?_
  refine x_ldc2 (a := 72564293) (dA D_X12_init 58 rfl) kl_RX12_49 (by decide) ?_
  obtain ⟨h39, h⟩ := h
  refine x_last (dA D_X12_init 59 rfl) h39 ?_
  refine x_nmM (fun M40 eM40 => ?_)
  have h := h M40 eM40
  refine x_dup (dA D_X12_init 60 rfl) rfl ?_
  refine x_iconst (dA D_X12_init 61 rfl) ?_
  refine x_ldc2 (a := 8553619) (dA D_X12_init 62 rfl) kl_RX12_51 (by decide) ?_
  obtain ⟨h41, h⟩ := h
  refine x_last (dA D_X12_init 63 rfl) h41 ?_
  refine x_nmM (fun M42 eM42 => ?_)
  have h := h M42 eM42
  refine x_dup (dA D_X12_init 64 rfl) rfl ?_
  refine x_iconst (dA D_X12_init 65 rfl) ?_
  refine x_ldc2 (a := 16110) (dA D_X12_init 66 rfl) kl_RX12_53 (by decide) ?_
  obtain ⟨h43, h⟩ := h
  refine x_last (dA D_X12_init 67 rfl) h43 ?_
  refine x_nmM (fun M44 eM44 => ?_)
  have h := h M44 eM44
  refine x_dup (dA D_X12_init 68 rfl) rfl ?_
  refine x_iconst (dA D_X12_init 69 rfl) ?_
  refine x_ldc2 (a := 446125701) (dA D_X12_init 70 rfl) kl_RX12_55 (by decide) ?_
  obtain ⟨h45, h⟩ := h
  refine x_last (dA D_X12_init 71 rfl) h45 ?_
  refine x_nmM (fun M46 eM46 => ?_)
  have h := h M46 eM46
  refine x_dup (dA D_X12_init 72 rfl) rfl ?_
  refine x_bipush (dA D_X12_init 73 rfl) (by decide) (by decide) ?_
  refine x_ldc2 (a := 549512356) (dA D_X12_init 74 rfl) kl_RX12_57 (by decide) ?_
  obtain ⟨h47, h⟩ := h
  refine x_last (dA D_X12_init 75 rfl) h47 ?_
  refine x_nmM (fun M48 eM48 => ?_)
  have h := h M48 eM48
  obtain ⟨h49, h⟩ := h
  refine x_put (x := mN M33) (dA D_X12_init 76 rfl) fw_RX12_59 (fun _ _ hc => by cases hc; exact Or.inr ⟨rfl, rfl⟩) h49 rfl (nar_ref _ _ _ (by first | exact Or.inl ⟨_, rfl⟩ | exact Or.inr ⟨_, rfl⟩)) (fit_ref _ _ _ (by first | exact Or.inl ⟨_, rfl⟩ | exact Or.inr ⟨_, rfl⟩)) ?_
  refine x_nmM (fun M50 eM50 => ?_)
  have h := h M50 eM50
  refine x_aload_n (dA D_X12_init 77 rfl) rfl ?_
  refine x_bipush (dA D_X12_init 78 rfl) (by decide) (by decide) ?_
  refine x_newa (k := 14) (n := 105256) (N := 13) (Or.inr (Or.inl ⟨rfl, rfl⟩)) (dA D_X12_init 79 rfl) ac_long (by decide) (by decide) ?_
  refine x_nmM (fun M51 eM51 => ?_)
  have h := h M51 eM51
  obtain ⟨h52, h⟩ := h
  refine x_put (x := mN M50) (dA D_X12_init 80 rfl) fw_RX12_63 (fun _ _ hc => by cases hc; exact Or.inr ⟨rfl, rfl⟩) h52 rfl (nar_ref _ _ _ (by first | exact Or.inl ⟨_, rfl⟩ | exact Or.inr ⟨_, rfl⟩)) (fit_ref _ _ _ (by first | exact Or.inl ⟨_, rfl⟩ | exact Or.inr ⟨_, rfl⟩)) ?_
  refine x_nmM (fun M53 eM53 => ?_)
  have h := h M53 eM53
  refine x_aload_n (dA D_X12_init 81 rfl) rfl ?_
  refine x_sipush (dA D_X12_init 82 rfl) (by decide) (by decide) ?_
  refine x_newa (k := 13) (n := 104856) (N := 400) (Or.inr (Or.inl ⟨rfl, rfl⟩)) (dA D_X12_init 83 rfl) ac_long (by decide) (by decide) ?_
  refine x_nmM (fun M54 eM54 => ?_)
  have h := h M54 eM54
  obtain ⟨h55, h⟩ := h
  refine x_put (x := mN M53) (dA D_X12_init 84 rfl) fw_RX12_66 (fun _ _ hc => by cases hc; exact Or.inr ⟨rfl, rfl⟩) h55 rfl (nar_ref _ _ _ (by first | exact Or.inl ⟨_, rfl⟩ | exact Or.inr ⟨_, rfl⟩)) (fit_ref _ _ _ (by first | exact Or.inl ⟨_, rfl⟩ | exact Or.inr ⟨_, rfl⟩)) ?_
  refine x_nmM (fun M56 eM56 => ?_)
  have h := h M56 eM56
  refine x_aload_n (dA D_X12_init 85 rfl) rfl ?_
  refine x_ldc (a := 96768) (dA D_X12_init 86 rfl) ki_RX12_69 (by decide) ?_
  refine x_newa (k := 12) (n := 8088) (N := 96768) (Or.inr (Or.inl ⟨rfl, rfl⟩)) (dA D_X12_init 87 rfl) ac_long (by decide) (by decide) ?_
  refine x_nmM (fun M57 eM57 => ?_)
  have h := h M57 eM57
  obtain ⟨h58, h⟩ := h
  refine x_put (x := mN M56) (dA D_X12_init 88 rfl) fw_RX12_70 (fun _ _ hc => by cases hc; exact Or.inr ⟨rfl, rfl⟩) h58 rfl (nar_ref _ _ _ (by first | exact Or.inl ⟨_, rfl⟩ | exact Or.inr ⟨_, rfl⟩)) (fit_ref _ _ _ (by first | exact Or.inl ⟨_, rfl⟩ | exact Or.inr ⟨_, rfl⟩)) ?_
  refine x_nmM (fun M59 eM59 => ?_)
  have h := h M59 eM59
  refine x_aload_n (dA D_X12_init 89 rfl) rfl ?_
  refine x_sipush (dA D_X12_init 90 rfl) (by decide) (by decide) ?_
  refine x_newa (k := 11) (n := 1176) (N := 6912) (Or.inl ⟨rfl, rfl⟩) (dA D_X12_init 91 rfl) ac_int (by decide) (by decide) ?_
  refine x_nmM (fun M60 eM60 => ?_)
  have h := h M60 eM60
  obtain ⟨h61, h⟩ := h
  refine x_put (x := mN M59) (dA D_X12_init 92 rfl) fw_RX12_73 (fun _ _ hc => by cases hc; exact Or.inr ⟨rfl, rfl⟩) h61 rfl (nar_ref _ _ _ (by first | exact Or.inl ⟨_, rfl⟩ | exact Or.inr ⟨_, rfl⟩)) (fit_ref _ _ _ (by first | exact Or.inl ⟨_, rfl⟩ | exact Or.inr ⟨_, rfl⟩)) ?_
  refine x_nmM (fun M62 eM62 => ?_)
  have h := h M62 eM62
  refine x_aload_n (dA D_X12_init 93 rfl) rfl ?_
  refine x_bipush (dA D_X12_init 94 rfl) (by decide) (by decide) ?_
  refine x_newa (k := 10) (n := 1162) (N := 14) (Or.inr (Or.inl ⟨rfl, rfl⟩)) (dA D_X12_init 95 rfl) ac_long (by decide) (by decide) ?_
  refine x_nmM (fun M63 eM63 => ?_)
  have h := h M63 eM63
  obtain ⟨h64, h⟩ := h
  refine x_put (x := mN M62) (dA D_X12_init 96 rfl) fw_RX12_76 (fun _ _ hc => by cases hc; exact Or.inr ⟨rfl, rfl⟩) h64 rfl (nar_ref _ _ _ (by first | exact Or.inl ⟨_, rfl⟩ | exact Or.inr ⟨_, rfl⟩)) (fit_ref _ _ _ (by first | exact Or.inl ⟨_, rfl⟩ | exact Or.inr ⟨_, rfl⟩)) ?_
  refine x_nmM (fun M65 eM65 => ?_)
  have h := h M65 eM65
  refine x_aload_n (dA D_X12_init 97 rfl) rfl ?_
  refine x_bipush (dA D_X12_init 98 rfl) (by decide) (by decide) ?_
  refine x_newa (k := 9) (n := 1148) (N := 14) (Or.inr (Or.inl ⟨rfl, rfl⟩)) (dA D_X12_init 99 rfl) ac_long (by decide) (by decide) ?_
  refine x_nmM (fun M66 eM66 => ?_)
  have h := h M66 eM66
  obtain ⟨h67, h⟩ := h
  refine x_put (x := mN M65) (dA D_X12_init 100 rfl) fw_RX12_79 (fun _ _ hc => by cases hc; exact Or.inr ⟨rfl, rfl⟩) h67 rfl (nar_ref _ _ _ (by first | exact Or.inl ⟨_, rfl⟩ | exact Or.inr ⟨_, rfl⟩)) (fit_ref _ _ _ (by first | exact Or.inl ⟨_, rfl⟩ | exact Or.inr ⟨_, rfl⟩)) ?_
  refine x_nmM (fun M68 eM68 => ?_)
  have h := h M68 eM68
  refine x_aload_n (dA D_X12_init 101 rfl) rfl ?_
  refine x_bipush (dA D_X12_init 102 rfl) (by decide) (by decide) ?_
  refine x_newa (k := 8) (n := 1134) (N := 14) (Or.inr (Or.inl ⟨rfl, rfl⟩)) (dA D_X12_init 103 rfl) ac_long (by decide) (by decide) ?_
  refine x_nmM (fun M69 eM69 => ?_)
  have h := h M69 eM69
  obtain ⟨h70, h⟩ := h
  refine x_put (x := mN M68) (dA D_X12_init 104 rfl) fw_RX12_82 (fun _ _ hc => by cases hc; exact Or.inr ⟨rfl, rfl⟩) h70 rfl (nar_ref _ _ _ (by first | exact Or.inl ⟨_, rfl⟩ | exact Or.inr ⟨_, rfl⟩)) (fit_ref _ _ _ (by first | exact Or.inl ⟨_, rfl⟩ | exact Or.inr ⟨_, rfl⟩)) ?_
  refine x_nmM (fun M71 eM71 => ?_)
  have h := h M71 eM71
  refine x_aload_n (dA D_X12_init 105 rfl) rfl ?_
  refine x_bipush (dA D_X12_init 106 rfl) (by decide) (by decide) ?_
  refine x_newa (k := 7) (n := 1120) (N := 14) (Or.inr (Or.inl ⟨rfl, rfl⟩)) (dA D_X12_init 107 rfl) ac_long (by decide) (by decide) ?_
  refine x_nmM (fun M72 eM72 => ?_)
  have h := h M72 eM72
  obtain ⟨h73, h⟩ := h
  refine x_put (x := mN M71) (dA D_X12_init 108 rfl) fw_RX12_85 (fun _ _ hc => by cases hc; exact Or.inr ⟨rfl, rfl⟩) h73 rfl (nar_ref _ _ _ (by first | exact Or.inl ⟨_, rfl⟩ | exact Or.inr ⟨_, rfl⟩)) (fit_ref _ _ _ (by first | exact Or.inl ⟨_, rfl⟩ | exact Or.inr ⟨_, rfl⟩)) ?_
  refine x_nmM (fun M74 eM74 => ?_)
  have h := h M74 eM74
  refine x_aload_n (dA D_X12_init 109 rfl) rfl ?_
  refine x_bipush (dA D_X12_init 110 rfl) (by decide) (by decide) ?_
  refine x_newa (k := 6) (n := 1048) (N := 72) (Or.inr (Or.inl ⟨rfl, rfl⟩)) (dA D_X12_init 111 rfl) ac_long (by decide) (by decide) ?_
  refine x_nmM (fun M75 eM75 => ?_)
  have h := h M75 eM75
  obtain ⟨h76, h⟩ := h
  refine x_put (x := mN M74) (dA D_X12_init 112 rfl) fw_RX12_88 (fun _ _ hc => by cases hc; exact Or.inr ⟨rfl, rfl⟩) h76 rfl (nar_ref _ _ _ (by first | exact Or.inl ⟨_, rfl⟩ | exact Or.inr ⟨_, rfl⟩)) (fit_ref _ _ _ (by first | exact Or.inl ⟨_, rfl⟩ | exact Or.inr ⟨_, rfl⟩)) ?_
  refine x_nmM (fun M77 eM77 => ?_)
  have h := h M77 eM77
  refine x_aload_n (dA D_X12_init 113 rfl) rfl ?_
  refine x_iconst (dA D_X12_init 114 rfl) ?_
  obtain ⟨h78, h⟩ := h
  refine x_put (x := (-1)) (dA D_X12_init 115 rfl) fw_RX12_91 (fun _ _ hc => by cases hc; exact Or.inr ⟨rfl, rfl⟩) h78 rfl rfl rfl ?_
  refine x_nmM (fun M79 eM79 => ?_)
  have h := h M79 eM79
  refine x_aload_n (dA D_X12_init 116 rfl) rfl ?_
  refine x_iconst (dA D_X12_init 117 rfl) ?_
  refine x_newa (k := 5) (n := 1043) (N := 5) (Or.inl ⟨rfl, rfl⟩) (dA D_X12_init 118 rfl) ac_int (by decide) (by decide) ?_
  refine x_nmM (fun M80 eM80 => ?_)
  have h := h M80 eM80
  obtain ⟨h81, h⟩ := h
  refine x_put (x := mN M79) (dA D_X12_init 119 rfl) fw_RX12_94 (fun _ _ hc => by cases hc; exact Or.inr ⟨rfl, rfl⟩) h81 rfl (nar_ref _ _ _ (by first | exact Or.inl ⟨_, rfl⟩ | exact Or.inr ⟨_, rfl⟩)) (fit_ref _ _ _ (by first | exact Or.inl ⟨_, rfl⟩ | exact Or.inr ⟨_, rfl⟩)) ?_
  refine x_nmM (fun M82 eM82 => ?_)
  have h := h M82 eM82
  refine x_aload_n (dA D_X12_init 120 rfl) rfl ?_
  refine x_iconst (dA D_X12_init 121 rfl) ?_
  refine x_newa (k := 4) (n := 1038) (N := 5) (Or.inl ⟨rfl, rfl⟩) (dA D_X12_init 122 rfl) ac_int (by decide) (by decide) ?_
  refine x_nmM (fun M83 eM83 => ?_)
  have h := h M83 eM83
  obtain ⟨h84, h⟩ := h
  refine x_put (x := mN M82) (dA D_X12_init 123 rfl) fw_RX12_97 (fun _ _ hc => by cases hc; exact Or.inr ⟨rfl, rfl⟩) h84 rfl (nar_ref _ _ _ (by first | exact Or.inl ⟨_, rfl⟩ | exact Or.inr ⟨_, rfl⟩)) (fit_ref _ _ _ (by first | exact Or.inl ⟨_, rfl⟩ | exact Or.inr ⟨_, rfl⟩)) ?_
  refine x_nmM (fun M85 eM85 => ?_)
  have h := h M85 eM85
  refine x_aload_n (dA D_X12_init 124 rfl) rfl ?_
  refine x_sipush (dA D_X12_init 125 rfl) (by decide) (by decide) ?_
  refine x_newa (k := 3) (n := 534) (N := 504) (Or.inr (Or.inl ⟨rfl, rfl⟩)) (dA D_X12_init 126 rfl) ac_long (by decide) (by decide) ?_
  refine x_nmM (fun M86 eM86 => ?_)
  have h := h M86 eM86
  obtain ⟨h87, h⟩ := h
  refine x_put (x := mN M85) (dA D_X12_init 127 rfl) fw_RX12_100 (fun _ _ hc => by cases hc; exact Or.inr ⟨rfl, rfl⟩) h87 rfl (nar_ref _ _ _ (by first | exact Or.inl ⟨_, rfl⟩ | exact Or.inr ⟨_, rfl⟩)) (fit_ref _ _ _ (by first | exact Or.inl ⟨_, rfl⟩ | exact Or.inr ⟨_, rfl⟩)) ?_
  refine x_nmM (fun M88 eM88 => ?_)
  have h := h M88 eM88
  refine x_aload_n (dA D_X12_init 128 rfl) rfl ?_
  refine x_sipush (dA D_X12_init 129 rfl) (by decide) (by decide) ?_
  refine x_newa (k := 2) (n := 30) (N := 504) (Or.inr (Or.inl ⟨rfl, rfl⟩)) (dA D_X12_init 130 rfl) ac_long (by decide) (by decide) ?_
  refine x_nmM (fun M89 eM89 => ?_)
  have h := h M89 eM89
  obtain ⟨h90, h⟩ := h
  refine x_put (x := mN M88) (dA D_X12_init 131 rfl) fw_RX12_103 (fun _ _ hc => by cases hc; exact Or.inr ⟨rfl, rfl⟩) h90 rfl (nar_ref _ _ _ (by first | exact Or.inl ⟨_, rfl⟩ | exact Or.inr ⟨_, rfl⟩)) (fit_ref _ _ _ (by first | exact Or.inl ⟨_, rfl⟩ | exact Or.inr ⟨_, rfl⟩)) ?_
  refine x_nmM (fun M91 eM91 => ?_)
  have h := h M91 eM91
  refine x_aload_n (dA D_X12_init 132 rfl) rfl ?_
  refine x_bipush (dA D_X12_init 133 rfl) (by decide) (by decide) ?_
  refine x_newa (k := 1) (n := 15) (N := 15) (Or.inl ⟨rfl, rfl⟩) (dA D_X12_init 134 rfl) ac_int (by decide) (by decide) ?_
  refine x_nmM (fun M92 eM92 => ?_)
  have h := h M92 eM92
  obtain ⟨h93, h⟩ := h
  refine x_put (x := mN M91) (dA D_X12_init 135 rfl) fw_RX12_106 (fun _ _ hc => by cases hc; exact Or.inr ⟨rfl, rfl⟩) h93 rfl (nar_ref _ _ _ (by first | exact Or.inl ⟨_, rfl⟩ | exact Or.inr ⟨_, rfl⟩)) (fit_ref _ _ _ (by first | exact Or.inl ⟨_, rfl⟩ | exact Or.inr ⟨_, rfl⟩)) ?_
  refine x_nmM (fun M94 eM94 => ?_)
  have h := h M94 eM94
  refine x_aload_n (dA D_X12_init 136 rfl) rfl ?_
  refine x_iconst (dA D_X12_init 137 rfl) ?_
  obtain ⟨h95, h⟩ := h
  refine x_put (x := (-1)) (dA D_X12_init 138 rfl) fw_RX12_109 (fun _ _ hc => by cases hc; exact Or.inr ⟨rfl, rfl⟩) h95 rfl rfl rfl ?_
  refine x_nmM (fun M96 eM96 => ?_)
  have h := h M96 eM96
  refine x_aload_n (dA D_X12_init 139 rfl) rfl ?_
  refine x_bipush (dA D_X12_init 140 rfl) (by decide) (by decide) ?_
  refine x_newa (k := 0) (n := 0) (N := 15) (Or.inl ⟨rfl, rfl⟩) (dA D_X12_init 141 rfl) ac_int (by decide) (by decide) ?_
  refine x_nmM (fun M97 eM97 => ?_)
  have h := h M97 eM97
  obtain ⟨h98, h⟩ := h
  refine x_put (x := mN M96) (dA D_X12_init 142 rfl) fw_RX12_112 (fun _ _ hc => by cases hc; exact Or.inr ⟨rfl, rfl⟩) h98 rfl (nar_ref _ _ _ (by first | exact Or.inl ⟨_, rfl⟩ | exact Or.inr ⟨_, rfl⟩)) (fit_ref _ _ _ (by first | exact Or.inl ⟨_, rfl⟩ | exact Or.inr ⟨_, rfl⟩)) ?_
  refine x_nmM (fun M99 eM99 => ?_)
  have h := h M99 eM99
  refine x_aload_n (dA D_X12_init 143 rfl) rfl ?_
  obtain ⟨h100, h⟩ := h
  refine x_get (v := vA (rd M99 x0 3)) (dA D_X12_init 144 rfl) fw_RX12_13 h100 rfl ?_
  refine x_iconst (dA D_X12_init 145 rfl) ?_
  refine x_iconst (dA D_X12_init 146 rfl) ?_
  obtain ⟨h101, h⟩ := h
  refine x_iast (dA D_X12_init 147 rfl) h101 ?_
  refine x_nmM (fun M102 eM102 => ?_)
  have h := h M102 eM102
  refine x_aload_n (dA D_X12_init 148 rfl) rfl ?_
  obtain ⟨h103, h⟩ := h
  refine x_get (v := vA (rd M102 x0 3)) (dA D_X12_init 149 rfl) fw_RX12_13 h103 rfl ?_
  refine x_iconst (dA D_X12_init 150 rfl) ?_
  refine x_iconst (dA D_X12_init 151 rfl) ?_
  obtain ⟨h104, h⟩ := h
  refine x_iast (dA D_X12_init 152 rfl) h104 ?_
  refine x_nmM (fun M105 eM105 => ?_)
  have h := h M105 eM105
  refine x_aload_n (dA D_X12_init 153 rfl) rfl ?_
  obtain ⟨h106, h⟩ := h
  refine x_get (v := vA (rd M105 x0 3)) (dA D_X12_init 154 rfl) fw_RX12_13 h106 rfl ?_
  refine x_bipush (dA D_X12_init 155 rfl) (by decide) (by decide) ?_
  refine x_iconst (dA D_X12_init 156 rfl) ?_
  obtain ⟨h107, h⟩ := h
  refine x_iast (dA D_X12_init 157 rfl) h107 ?_
  refine x_nmM (fun M108 eM108 => ?_)
  have h := h M108 eM108
  refine x_aload_n (dA D_X12_init 158 rfl) rfl ?_
  obtain ⟨h109, h⟩ := h
  refine x_get (v := vA (rd M108 x0 3)) (dA D_X12_init 159 rfl) fw_RX12_13 h109 rfl ?_
  refine x_bipush (dA D_X12_init 160 rfl) (by decide) (by decide) ?_
  refine x_iconst (dA D_X12_init 161 rfl) ?_
  obtain ⟨h110, h⟩ := h
  refine x_iast (dA D_X12_init 162 rfl) h110 ?_
  refine x_nmM (fun M111 eM111 => ?_)
  have h := h M111 eM111
  refine x_aload_n (dA D_X12_init 163 rfl) rfl ?_
  obtain ⟨h112, h⟩ := h
  refine x_get (v := vA (rd M111 x0 3)) (dA D_X12_init 164 rfl) fw_RX12_13 h112 rfl ?_
  refine x_bipush (dA D_X12_init 165 rfl) (by decide) (by decide) ?_
  refine x_iconst (dA D_X12_init 166 rfl) ?_
  obtain ⟨h113, h⟩ := h
  refine x_iast (dA D_X12_init 167 rfl) h113 ?_
  refine x_nmM (fun M114 eM114 => ?_)
  have h := h M114 eM114
  refine x_aload_n (dA D_X12_init 168 rfl) rfl ?_
  obtain ⟨h115, h⟩ := h
  refine x_get (v := vA (rd M114 x0 3)) (dA D_X12_init 169 rfl) fw_RX12_13 h115 rfl ?_
  refine x_bipush (dA D_X12_init 170 rfl) (by decide) (by decide) ?_
  refine x_bipush (dA D_X12_init 171 rfl) (by decide) (by decide) ?_
  obtain ⟨h116, h⟩ := h
  refine x_iast (dA D_X12_init 172 rfl) h116 ?_
  refine x_nmM (fun M117 eM117 => ?_)
  have h := h M117 eM117
  exact x_return (dA D_X12_init 173 rfl) rfl h
theorem C_X12_init {G : GG} {d : Nat} {x0 : Int} {M : MM} {Q : PV → MM → Prop} (h : X G Y_X12_init d 26 123761 0 [vA x0] [] M Q) : C G Y_X12_init d 26 123761 [vA x0] M Q := X.entry (by decide) (Nat.le_of_ble_eq_true rfl) rfl rfl rfl h
