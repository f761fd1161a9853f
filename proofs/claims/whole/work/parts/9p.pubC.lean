set_option maxRecDepth 100000 in
theorem B_X5_init_0 {G : GG} {d : Nat} {x0 x1 : Int} {M : MM} {Q : PV → MM → Prop} (hd : 2 ≤ d) (h : 0 ≤ x0 ∧ okO M x1 6 ∧ okO M x0 4 ∧ ∀ M4, M4 = wr M x0 0 (rd M x1 4) → okO M4 x1 6 ∧ C G Y_J7_copyOf_59c91 (d - 1) 1 400 [vA (rd M4 x1 5), vI (rd M4 x1 4)] M4 (rA (fun r7 M6 => okO M6 x0 4 ∧ ∀ M9, M9 = wr M6 x0 1 r7 → okO M9 x1 6 ∧ C G Y_J7_copyOf_59c91 (d - 1) 1 400 [vA (rd M9 x1 6), vI ((rd M9 x1 4) + 1)] M9 (rA (fun r12 M11 => okO M11 x0 4 ∧ ∀ M14, M14 = wr M11 x0 2 r12 → okO M14 x1 6 ∧ C G Y_J7_copyOf_59c91 (d - 1) 1 400 [vA (rd M14 x1 7), vI (rd M14 x1 8)] M14 (rA (fun r17 M16 => okO M16 x0 4 ∧ ∀ M19, M19 = wr M16 x0 3 r17 → Q vU M19))))))) : X G Y_X5_init d 3 1200 0 [vA x0, vA x1] [] M Q := by
  have hd1 : 1 ≤ d := by omega
  refine x_aload_n (dA D_X5_init 0 rfl) rfl ?_
  obtain ⟨h1, h⟩ := h
  refine x_oinit [] (dA D_X5_init 1 rfl) ⟨ml_RX5_1, w_oi, w_oc⟩ (by decide) hd1 h1 ?_
  refine x_aload_n (dA D_X5_init 2 rfl) rfl ?_
  refine x_aload_n (dA D_X5_init 3 rfl) rfl ?_
  obtain ⟨h2, h⟩ := h
  refine x_get (v := vI (rd M x1 4)) (dA D_X5_init 4 rfl) fw_RX5_7 h2 rfl ?_
  obtain ⟨h3, h⟩ := h
  refine x_put (x := rd M x1 4) (dA D_X5_init 5 rfl) fw_RX5_13 (fun _ _ hc => by cases hc; exact Or.inr ⟨rfl, rfl⟩) h3 rfl rfl rfl ?_
  refine x_nmM (fun M4 eM4 => ?_)
  have h := h M4 eM4
  refine x_aload_n (dA D_X5_init 6 rfl) rfl ?_
  refine x_aload_n (dA D_X5_init 7 rfl) rfl ?_
  obtain ⟨h5, h⟩ := h
  refine x_get (v := vA (rd M4 x1 5)) (dA D_X5_init 8 rfl) fw_RX5_16 h5 rfl ?_
  refine x_aload_n (dA D_X5_init 9 rfl) rfl ?_
  refine x_get (v := vI (rd M4 x1 4)) (dA D_X5_init 10 rfl) fw_RX5_7 h5 rfl ?_
  refine x_callS [vA (rd M4 x1 5), vI (rd M4 x1 4)] [vA x0] (dA D_X5_init 11 rfl) cw_RX5_20 rfl rfl (Nat.le_of_ble_eq_true rfl) hd1 (k := 2) (n := 800) (by decide) (by decide) h (kA (fun r7 M6 h => ?_))
  obtain ⟨h8, h⟩ := h
  refine x_put (x := r7) (dA D_X5_init 12 rfl) fw_RX5_26 (fun _ _ hc => by cases hc; exact Or.inr ⟨rfl, rfl⟩) h8 rfl (nar_ref _ _ _ (by first | exact Or.inl ⟨_, rfl⟩ | exact Or.inr ⟨_, rfl⟩)) (fit_ref _ _ _ (by first | exact Or.inl ⟨_, rfl⟩ | exact Or.inr ⟨_, rfl⟩)) ?_
  refine x_nmM (fun M9 eM9 => ?_)
  have h := h M9 eM9
  refine x_aload_n (dA D_X5_init 13 rfl) rfl ?_
  refine x_aload_n (dA D_X5_init 14 rfl) rfl ?_
  obtain ⟨h10, h⟩ := h
  refine x_get (v := vA (rd M9 x1 6)) (dA D_X5_init 15 rfl) fw_RX5_27 h10 rfl ?_
  refine x_aload_n (dA D_X5_init 16 rfl) rfl ?_
  refine x_get (v := vI (rd M9 x1 4)) (dA D_X5_init 17 rfl) fw_RX5_7 h10 rfl ?_
  refine x_iconst (dA D_X5_init 18 rfl) ?_
  refine x_iadd (dA D_X5_init 19 rfl) ?_
  refine x_callS [vA (rd M9 x1 6), vI ((rd M9 x1 4) + 1)] [vA x0] (dA D_X5_init 20 rfl) cw_RX5_20 rfl rfl (Nat.le_of_ble_eq_true rfl) hd1 (k := 1) (n := 400) (by decide) (by decide) h (kA (fun r12 M11 h => ?_))
  obtain ⟨h13, h⟩ := h
  refine x_put (x := r12) (dA D_X5_init 21 rfl) fw_RX5_30 (fun _ _ hc => by cases hc; exact Or.inr ⟨rfl, rfl⟩) h13 rfl (nar_ref _ _ _ (by first | exact Or.inl ⟨_, rfl⟩ | exact Or.inr ⟨_, rfl⟩)) (fit_ref _ _ _ (by first | exact Or.inl ⟨_, rfl⟩ | exact Or.inr ⟨_, rfl⟩)) ?_
  refine x_nmM (fun M14 eM14 => ?_)
  have h := h M14 eM14
  refine x_aload_n (dA D_X5_init 22 rfl) rfl ?_
  refine x_aload_n (dA D_X5_init 23 rfl) rfl ?_
  obtain ⟨h15, h⟩ := h
  refine x_get (v := vA (rd M14 x1 7)) (dA D_X5_init 24 rfl) fw_RX5_31 h15 rfl ?_
  refine x_aload_n (dA D_X5_init 25 rfl) rfl ?_
  refine x_get (v := vI (rd M14 x1 8)) (dA D_X5_init 26 rfl) fw_RX5_34 h15 rfl ?_
  refine x_callS [vA (rd M14 x1 7), vI (rd M14 x1 8)] [vA x0] (dA D_X5_init 27 rfl) cw_RX5_20 rfl rfl (Nat.le_of_ble_eq_true rfl) hd1 (k := 0) (n := 0) (by decide) (by decide) h (kA (fun r17 M16 h => ?_))
  obtain ⟨h18, h⟩ := h
  refine x_put (x := r17) (dA D_X5_init 28 rfl) fw_RX5_37 (fun _ _ hc => by cases hc; exact Or.inr ⟨rfl, rfl⟩) h18 rfl (nar_ref _ _ _ (by first | exact Or.inl ⟨_, rfl⟩ | exact Or.inr ⟨_, rfl⟩)) (fit_ref _ _ _ (by first | exact Or.inl ⟨_, rfl⟩ | exact Or.inr ⟨_, rfl⟩)) ?_
  refine x_nmM (fun M19 eM19 => ?_)
  have h := h M19 eM19
  exact x_return (dA D_X5_init 29 rfl) rfl h
theorem C_X5_init {G : GG} {d : Nat} {x0 x1 : Int} {M : MM} {Q : PV → MM → Prop} (h : X G Y_X5_init d 3 1200 0 [vA x0, vA x1] [] M Q) : C G Y_X5_init d 3 1200 [vA x0, vA x1] M Q := X.entry (by decide) (Nat.le_of_ble_eq_true rfl) rfl rfl rfl h
set_option maxRecDepth 100000 in
theorem B_X4_init_0 {G : GG} {d : Nat} {x0 : Int} {M : MM} {Q : PV → MM → Prop} (hd : 1 ≤ d) (h : 0 ≤ x0 ∧ okO M x0 3 ∧ ∀ M3, M3 = wr M x0 0 0 → ∀ M4, M4 = al M3 20 5 (fun _ => 0) → okO M4 x0 3 ∧ ∀ M6, M6 = wr M4 x0 1 (mN M3) → ∀ M7, M7 = al M6 20 5 (fun _ => 0) → okO M7 x0 3 ∧ ∀ M9, M9 = wr M7 x0 2 (mN M6) → ∀ M10, M10 = al M9 20 5 (fun _ => 0) → okO M10 x0 3 ∧ ∀ M12, M12 = wr M10 x0 3 (mN M9) → ∀ M13, M13 = al M12 20 2 (fun _ => 0) → okO M13 x0 3 ∧ ∀ M15, M15 = wr M13 x0 4 (mN M12) → ∀ M16, M16 = al M15 20 2 (fun _ => 0) → okA M16 (mN M15) 20 0 ∧ ∀ M18, M18 = wr M16 (mN M15) 0 1 → okA M18 (mN M15) 20 1 ∧ ∀ M20, M20 = wr M18 (mN M15) 1 1 → okO M20 x0 3 ∧ ∀ M22, M22 = wr M20 x0 5 (mN M15) → ∀ M23, M23 = al M22 20 2 (fun _ => 0) → okO M23 x0 3 ∧ ∀ M25, M25 = wr M23 x0 6 (mN M22) → ∀ M26, M26 = al M25 20 3 (fun _ => 0) → okA M26 (mN M25) 20 0 ∧ ∀ M28, M28 = wr M26 (mN M25) 0 1 → okA M28 (mN M25) 20 1 ∧ ∀ M30, M30 = wr M28 (mN M25) 1 0 → okA M30 (mN M25) 20 2 ∧ ∀ M32, M32 = wr M30 (mN M25) 2 120 → okO M32 x0 3 ∧ ∀ M34, M34 = wr M32 x0 7 (mN M25) → ∀ M35, M35 = al M34 24 6 (fun _ => -1) → okO M35 x0 3 ∧ ∀ M37, M37 = wr M35 x0 8 (mN M34) → okO M37 x0 3 ∧ ∀ M39, M39 = wr M37 x0 9 0 → okO M39 x0 3 ∧ ∀ M41, M41 = wr M39 x0 10 (-1) → ∀ M42, M42 = al M41 20 5 (fun _ => 0) → okO M42 x0 3 ∧ ∀ M44, M44 = wr M42 x0 11 (mN M41) → okO M44 x0 3 ∧ ∀ M46, M46 = wr M44 x0 12 0 → okO M46 x0 3 ∧ ∀ M48, M48 = wr M46 x0 13 0 → ∀ M49, M49 = al M48 20 6 (fun _ => 0) → okO M49 x0 3 ∧ ∀ M51, M51 = wr M49 x0 14 (mN M48) → ∀ M52, M52 = al M51 20 5 (fun _ => 0) → okO M52 x0 3 ∧ ∀ M54, M54 = wr M52 x0 15 (mN M51) → okO M54 x0 3 ∧ ∀ M56, M56 = wr M54 x0 16 0 → Q vU M56) : X G Y_X4_init d 11 46 0 [vA x0] [] M Q := by
  have hd1 : 1 ≤ d := by omega
  refine x_aload_n (dA D_X4_init 0 rfl) rfl ?_
  obtain ⟨h1, h⟩ := h
  refine x_oinit [] (dA D_X4_init 1 rfl) ⟨ml_RX4_3, w_oi, w_oc⟩ (by decide) hd1 h1 ?_
  refine x_aload_n (dA D_X4_init 2 rfl) rfl ?_
  refine x_iconst (dA D_X4_init 3 rfl) ?_
  obtain ⟨h2, h⟩ := h
  refine x_put (x := 0) (dA D_X4_init 4 rfl) fw_RX4_9 (fun _ _ hc => by cases hc; exact Or.inr ⟨rfl, rfl⟩) h2 rfl rfl rfl ?_
  refine x_nmM (fun M3 eM3 => ?_)
  have h := h M3 eM3
  refine x_aload_n (dA D_X4_init 5 rfl) rfl ?_
  refine x_iconst (dA D_X4_init 6 rfl) ?_
  refine x_newa (k := 10) (n := 41) (N := 5) (Or.inl ⟨rfl, rfl⟩) (dA D_X4_init 7 rfl) ac_int (by decide) (by decide) ?_
  refine x_nmM (fun M4 eM4 => ?_)
  have h := h M4 eM4
  obtain ⟨h5, h⟩ := h
  refine x_put (x := mN M3) (dA D_X4_init 8 rfl) fw_RX4_15 (fun _ _ hc => by cases hc; exact Or.inr ⟨rfl, rfl⟩) h5 rfl (nar_ref _ _ _ (by first | exact Or.inl ⟨_, rfl⟩ | exact Or.inr ⟨_, rfl⟩)) (fit_ref _ _ _ (by first | exact Or.inl ⟨_, rfl⟩ | exact Or.inr ⟨_, rfl⟩)) ?_
  refine x_nmM (fun M6 eM6 => ?_)
  have h := h M6 eM6
  refine x_aload_n (dA D_X4_init 9 rfl) rfl ?_
  refine x_iconst (dA D_X4_init 10 rfl) ?_
  refine x_newa (k := 9) (n := 36) (N := 5) (Or.inl ⟨rfl, rfl⟩) (dA D_X4_init 11 rfl) ac_int (by decide) (by decide) ?_
  refine x_nmM (fun M7 eM7 => ?_)
  have h := h M7 eM7
  obtain ⟨h8, h⟩ := h
  refine x_put (x := mN M6) (dA D_X4_init 12 rfl) fw_RX4_19 (fun _ _ hc => by cases hc; exact Or.inr ⟨rfl, rfl⟩) h8 rfl (nar_ref _ _ _ (by first | exact Or.inl ⟨_, rfl⟩ | exact Or.inr ⟨_, rfl⟩)) (fit_ref _ _ _ (by first | exact Or.inl ⟨_, rfl⟩ | exact Or.inr ⟨_, rfl⟩)) ?_
  refine x_nmM (fun M9 eM9 => ?_)
  have h := h M9 eM9
  refine x_aload_n (dA D_X4_init 13 rfl) rfl ?_
  refine x_iconst (dA D_X4_init 14 rfl) ?_
  refine x_newa (k := 8) (n := 31) (N := 5) (Or.inl ⟨rfl, rfl⟩) (dA D_X4_init 15 rfl) ac_int (by decide) (by decide) ?_
  refine x_nmM (fun M10 eM10 => ?_)
  have h := h M10 eM10
  obtain ⟨h11, h⟩ := h
  refine x_put (x := mN M9) (dA D_X4_init 16 rfl) fw_RX4_22 (fun _ _ hc => by cases hc; exact Or.inr ⟨rfl, rfl⟩) h11 rfl (nar_ref _ _ _ (by first | exact Or.inl ⟨_, rfl⟩ | exact Or.inr ⟨_, rfl⟩)) (fit_ref _ _ _ (by first | exact Or.inl ⟨_, rfl⟩ | exact Or.inr ⟨_, rfl⟩)) ?_
  refine x_nmM (fun M12 eM12 => ?_)
  have h := h M12 eM12
  refine x_aload_n (dA D_X4_init 17 rfl) rfl ?_
  refine x_iconst (dA D_X4_init 18 rfl) ?_
  refine x_newa (k := 7) (n := 29) (N := 2) (Or.inl ⟨rfl, rfl⟩) (dA D_X4_init 19 rfl) ac_int (by decide) (by decide) ?_
  refine x_nmM (fun M13 eM13 => ?_)
  have h := h M13 eM13
  obtain ⟨h14, h⟩ := h
  refine x_put (x := mN M12) (dA D_X4_init 20 rfl) fw_RX4_25 (fun _ _ hc => by cases hc; exact Or.inr ⟨rfl, rfl⟩) h14 rfl (nar_ref _ _ _ (by first | exact Or.inl ⟨_, rfl⟩ | exact Or.inr ⟨_, rfl⟩)) (fit_ref _ _ _ (by first | exact Or.inl ⟨_, rfl⟩ | exact Or.inr ⟨_, rfl⟩)) ?_
  refine x_nmM (fun M15 eM15 => ?_)
  have h := h M15 eM15
  refine x_aload_n (dA D_X4_init 21 rfl) rfl ?_
  refine x_iconst (dA D_X4_init 22 rfl) ?_
  refine x_newa (k := 6) (n := 27) (N := 2) (Or.inl ⟨rfl, rfl⟩) (dA D_X4_init 23 rfl) ac_int (by decide) (by decide) ?_
  refine x_nmM (fun M16 eM16 => ?_)
  have h := h M16 eM16
  refine x_dup (dA D_X4_init 24 rfl) rfl ?_
  refine x_iconst (dA D_X4_init 25 rfl) ?_
  refine x_iconst (dA D_X4_init 26 rfl) ?_
  obtain ⟨h17, h⟩ := h
  refine x_iast (dA D_X4_init 27 rfl) h17 ?_
  refine x_nmM (fun M18 eM18 => ?_)
  have h := h M18 eM18
  refine x_dup (dA D_X4_init 28 rfl) rfl ?_
  refine x_iconst (dA D_X4_init 29 rfl) ?_
  refine x_iconst (dA D_X4_init 30 rfl) ?_
  obtain ⟨h19, h⟩ := h
  refine x_iast (dA D_X4_init 31 rfl) h19 ?_
  refine x_nmM (fun M20 eM20 => ?_)
  have h := h M20 eM20
  obtain ⟨h21, h⟩ := h
  refine x_put (x := mN M15) (dA D_X4_init 32 rfl) fw_RX4_28 (fun _ _ hc => by cases hc; exact Or.inr ⟨rfl, rfl⟩) h21 rfl (nar_ref _ _ _ (by first | exact Or.inl ⟨_, rfl⟩ | exact Or.inr ⟨_, rfl⟩)) (fit_ref _ _ _ (by first | exact Or.inl ⟨_, rfl⟩ | exact Or.inr ⟨_, rfl⟩)) ?_
  refine x_nmM (fun M22 eM22 => ?_)
  have h := h M22 eM22
  refine x_aload_n (dA D_X4_init 33 rfl) rfl ?_
  refine x_iconst (dA D_X4_init 34 rfl) ?_
  refine x_newa (k := 5) (n := 25) (N := 2) (Or.inl ⟨rfl, rfl⟩) (dA D_X4_init 35 rfl) ac_int (by decide) (by decide) ?_
  refine x_nmM (fun M23 eM23 => ?_)
  have h := h M23 eM23
  obtain ⟨h24, h⟩ := h
  refine x_put (x := mN M22) (dA D_X4_init 36 rfl) fw_RX4_31 (fun _ _ hc => by cases hc; exact Or.inr ⟨rfl, rfl⟩) h24 rfl (nar_ref _ _ _ (by first | exact Or.inl ⟨_, rfl⟩ | exact Or.inr ⟨_, rfl⟩)) (fit_ref _ _ _ (by first | exact Or.inl ⟨_, rfl⟩ | exact Or.inr ⟨_, rfl⟩)) ?_
  refine x_nmM (fun M25 eM25 => ?_)
  have h := h M25 eM25
  refine x_aload_n (dA D_X4_init 37 rfl) rfl ?_
  refine x_iconst (dA D_X4_init 38 rfl) ?_
  refine x_newa (k := 4) (n := 22) (N := 3) (Or.inl ⟨rfl, rfl⟩) (dA D_X4_init 39 rfl) ac_int (by decide) (by decide) ?_
  refine x_nmM (fun M26 eM26 => ?_)
  have h := h M26 eM26
  refine x_dup (dA D_X4_init 40 rfl) rfl ?_
  refine x_iconst (dA D_X4_init 41 rfl) ?_
  refine x_iconst (dA D_X4_init 42 rfl) ?_
  obtain ⟨h27, h⟩ := h
  refine x_iast (dA D_X4_init 43 rfl) h27 ?_
  refine x_nmM (fun M28 eM28 => ?_)
  have h := h M28 eM28
  refine x_dup (dA D_X4_init 44 rfl) rfl ?_
  refine x_iconst (dA D_X4_init 45 rfl) ?_
  refine x_iconst (dA D_X4_init 46 rfl) ?_
  obtain ⟨h29, h⟩ := h
  refine x_iast (dA D_X4_init 47 rfl) h29 ?_
  refine x_nmM (fun M30 eM30 => ?_)
  have h := h M30 eM30
  refine x_dup (dA D_X4_init 48 rfl) rfl ?_
  refine x_iconst (dA D_X4_init 49 rfl) ?_
  refine x_bipush (dA D_X4_init 50 rfl) (by decide) (by decide) ?_
  obtain ⟨h31, h⟩ := h
  refine x_iast (dA D_X4_init 51 rfl) h31 ?_
  refine x_nmM (fun M32 eM32 => ?_)
  have h := h M32 eM32
  obtain ⟨h33, h⟩ := h
  refine x_put (x := mN M25) (dA D_X4_init 52 rfl) fw_RX4_34 (fun _ _ hc => by cases hc; exact Or.inr ⟨rfl, rfl⟩) h33 rfl (nar_ref _ _ _ (by first | exact Or.inl ⟨_, rfl⟩ | exact Or.inr ⟨_, rfl⟩)) (fit_ref _ _ _ (by first | exact Or.inl ⟨_, rfl⟩ | exact Or.inr ⟨_, rfl⟩)) ?_
  refine x_nmM (fun M34 eM34 => ?_)
  have h := h M34 eM34
  refine x_aload_n (dA D_X4_init 53 rfl) rfl ?_
  refine x_bipush (dA D_X4_init 54 rfl) (by decide) (by decide) ?_
  refine x_newq (k := 3) (n := 16) (N := 6) (Or.inr ⟨rfl, rfl⟩) (dA D_X4_init 55 rfl) kw_RX4_37 (by decide) (by decide) ?_
  refine x_nmM (fun M35 eM35 => ?_)
  have h := h M35 eM35
  obtain ⟨h36, h⟩ := h
  refine x_put (x := mN M34) (dA D_X4_init 56 rfl) fw_RX4_39 (fun _ _ hc => by cases hc; exact Or.inr ⟨rfl, rfl⟩) h36 rfl (nar_ref _ _ _ (by first | exact Or.inl ⟨_, rfl⟩ | exact Or.inr ⟨_, rfl⟩)) (fit_ref _ _ _ (by first | exact Or.inl ⟨_, rfl⟩ | exact Or.inr ⟨_, rfl⟩)) ?_
  refine x_nmM (fun M37 eM37 => ?_)
  have h := h M37 eM37
  refine x_aload_n (dA D_X4_init 57 rfl) rfl ?_
  refine x_iconst (dA D_X4_init 58 rfl) ?_
  obtain ⟨h38, h⟩ := h
  refine x_put (x := 0) (dA D_X4_init 59 rfl) fw_RX4_43 (fun _ _ hc => by cases hc; exact Or.inr ⟨rfl, rfl⟩) h38 rfl rfl rfl ?_
  refine x_nmM (fun M39 eM39 => ?_)
  have h := h M39 eM39
  refine x_aload_n (dA D_X4_init 60 rfl) rfl ?_
  refine x_iconst (dA D_X4_init 61 rfl) ?_
  obtain ⟨h40, h⟩ := h
  refine x_put (x := (-1)) (dA D_X4_init 62 rfl) fw_RX4_46 (fun _ _ hc => by cases hc; exact Or.inr ⟨rfl, rfl⟩) h40 rfl rfl rfl ?_
  refine x_nmM (fun M41 eM41 => ?_)
  have h := h M41 eM41
  refine x_aload_n (dA D_X4_init 63 rfl) rfl ?_
  refine x_iconst (dA D_X4_init 64 rfl) ?_
  refine x_newa (k := 2) (n := 11) (N := 5) (Or.inl ⟨rfl, rfl⟩) (dA D_X4_init 65 rfl) ac_int (by decide) (by decide) ?_
  refine x_nmM (fun M42 eM42 => ?_)
  have h := h M42 eM42
  obtain ⟨h43, h⟩ := h
  refine x_put (x := mN M41) (dA D_X4_init 66 rfl) fw_RX4_49 (fun _ _ hc => by cases hc; exact Or.inr ⟨rfl, rfl⟩) h43 rfl (nar_ref _ _ _ (by first | exact Or.inl ⟨_, rfl⟩ | exact Or.inr ⟨_, rfl⟩)) (fit_ref _ _ _ (by first | exact Or.inl ⟨_, rfl⟩ | exact Or.inr ⟨_, rfl⟩)) ?_
  refine x_nmM (fun M44 eM44 => ?_)
  have h := h M44 eM44
  refine x_aload_n (dA D_X4_init 67 rfl) rfl ?_
  refine x_iconst (dA D_X4_init 68 rfl) ?_
  obtain ⟨h45, h⟩ := h
  refine x_put (x := 0) (dA D_X4_init 69 rfl) fw_RX4_52 (fun _ _ hc => by cases hc; exact Or.inr ⟨rfl, rfl⟩) h45 rfl rfl rfl ?_
  refine x_nmM (fun M46 eM46 => ?_)
  have h := h M46 eM46
  refine x_aload_n (dA D_X4_init 70 rfl) rfl ?_
  refine x_iconst (dA D_X4_init 71 rfl) ?_
  obtain ⟨h47, h⟩ := h
  refine x_put (x := 0) (dA D_X4_init 72 rfl) fw_RX4_55 (fun _ _ hc => by cases hc; exact Or.inr ⟨rfl, rfl⟩) h47 rfl (z_nar (by decide)) (z_fit (by decide)) ?_
  refine x_nmM (fun M48 eM48 => ?_)
  have h := h M48 eM48
  refine x_aload_n (dA D_X4_init 73 rfl) rfl ?_
  refine x_bipush (dA D_X4_init 74 rfl) (by decide) (by decide) ?_
  refine x_newa (k := 1) (n := 5) (N := 6) (Or.inl ⟨rfl, rfl⟩) (dA D_X4_init 75 rfl) ac_int (by decide) (by decide) ?_
  refine x_nmM (fun M49 eM49 => ?_)
  have h := h M49 eM49
  obtain ⟨h50, h⟩ := h
  refine x_put (x := mN M48) (dA D_X4_init 76 rfl) fw_RX4_59 (fun _ _ hc => by cases hc; exact Or.inr ⟨rfl, rfl⟩) h50 rfl (nar_ref _ _ _ (by first | exact Or.inl ⟨_, rfl⟩ | exact Or.inr ⟨_, rfl⟩)) (fit_ref _ _ _ (by first | exact Or.inl ⟨_, rfl⟩ | exact Or.inr ⟨_, rfl⟩)) ?_
  refine x_nmM (fun M51 eM51 => ?_)
  have h := h M51 eM51
  refine x_aload_n (dA D_X4_init 77 rfl) rfl ?_
  refine x_iconst (dA D_X4_init 78 rfl) ?_
  refine x_newa (k := 0) (n := 0) (N := 5) (Or.inl ⟨rfl, rfl⟩) (dA D_X4_init 79 rfl) ac_int (by decide) (by decide) ?_
  refine x_nmM (fun M52 eM52 => ?_)
  have h := h M52 eM52
  obtain ⟨h53, h⟩ := h
  refine x_put (x := mN M51) (dA D_X4_init 80 rfl) fw_RX4_62 (fun _ _ hc => by cases hc; exact Or.inr ⟨rfl, rfl⟩) h53 rfl (nar_ref _ _ _ (by first | exact Or.inl ⟨_, rfl⟩ | exact Or.inr ⟨_, rfl⟩)) (fit_ref _ _ _ (by first | exact Or.inl ⟨_, rfl⟩ | exact Or.inr ⟨_, rfl⟩)) ?_
  refine x_nmM (fun M54 eM54 => ?_)
  have h := h M54 eM54
  refine x_aload_n (dA D_X4_init 81 rfl) rfl ?_
  refine x_iconst (dA D_X4_init 82 rfl) ?_
  obtain ⟨h55, h⟩ := h
  refine x_put (x := 0) (dA D_X4_init 83 rfl) fw_RX4_65 (fun _ _ hc => by cases hc; exact Or.inr ⟨rfl, rfl⟩) h55 rfl rfl rfl ?_
  refine x_nmM (fun M56 eM56 => ?_)
  have h := h M56 eM56
  exact x_return (dA D_X4_init 84 rfl) rfl h
theorem C_X4_init {G : GG} {d : Nat} {x0 : Int} {M : MM} {Q : PV → MM → Prop} (h : X G Y_X4_init d 11 46 0 [vA x0] [] M Q) : C G Y_X4_init d 11 46 [vA x0] M Q := X.entry (by decide) (Nat.le_of_ble_eq_true rfl) rfl rfl rfl h
set_option maxRecDepth 100000 in
theorem B_X4_becomes_0 {G : GG} {d : Nat} {k n : Nat} {x0 x1 : Int} {M : MM} {Q : PV → MM → Prop} (hd : 1 ≤ d) (h : okO M x1 3 ∧ okO M x0 3 ∧ ∀ M3, M3 = wr M x0 0 (rd M x1 0) → okO M3 x1 3 ∧ okO M3 x0 3 ∧ ∀ M6, M6 = wr M3 x0 9 (rd M3 x1 9) → okO M6 x1 3 ∧ okO M6 x0 3 ∧ ∀ M9, M9 = wr M6 x0 10 (rd M6 x1 10) → okO M9 x1 3 ∧ okO M9 x0 3 ∧ ∀ M12, M12 = wr M9 x0 12 (rd M9 x1 12) → okO M12 x1 3 ∧ okO M12 x0 3 ∧ (((rd M12 x1 13) = 0 ∨ (rd M12 x1 13) = 1)) ∧ ∀ M15, M15 = wr M12 x0 13 (rd M12 x1 13) → okO M15 x1 3 ∧ okO M15 x0 3 ∧ ∀ M19, M19 = wr M15 x0 16 (rd M15 x1 16) → okO M19 x1 3 ∧ okO M19 x0 3 ∧ okO M19 (rd M19 x1 1) 20 ∧ okO M19 (rd M19 x0 1) 20 ∧ 0 + 5 ≤ (mT M19 (rd M19 x1 1)).2 ∧ 0 + 5 ≤ (mT M19 (rd M19 x0 1)).2 ∧ ∀ M22, M22 = cpM M19 (rd M19 x1 1) 0 (rd M19 x0 1) 0 5 → okO M22 x1 3 ∧ okO M22 x0 3 ∧ okO M22 (rd M22 x1 2) 20 ∧ okO M22 (rd M22 x0 2) 20 ∧ 0 + 5 ≤ (mT M22 (rd M22 x1 2)).2 ∧ 0 + 5 ≤ (mT M22 (rd M22 x0 2)).2 ∧ ∀ M29, M29 = cpM M22 (rd M22 x1 2) 0 (rd M22 x0 2) 0 5 → okO M29 x1 3 ∧ okO M29 x0 3 ∧ okO M29 (rd M29 x1 3) 20 ∧ okO M29 (rd M29 x0 3) 20 ∧ 0 + 5 ≤ (mT M29 (rd M29 x1 3)).2 ∧ 0 + 5 ≤ (mT M29 (rd M29 x0 3)).2 ∧ ∀ M36, M36 = cpM M29 (rd M29 x1 3) 0 (rd M29 x0 3) 0 5 → okO M36 x1 3 ∧ okO M36 x0 3 ∧ okO M36 (rd M36 x1 4) 20 ∧ okO M36 (rd M36 x0 4) 20 ∧ 0 + 2 ≤ (mT M36 (rd M36 x1 4)).2 ∧ 0 + 2 ≤ (mT M36 (rd M36 x0 4)).2 ∧ ∀ M43, M43 = cpM M36 (rd M36 x1 4) 0 (rd M36 x0 4) 0 2 → okO M43 x1 3 ∧ okO M43 x0 3 ∧ okO M43 (rd M43 x1 5) 20 ∧ okO M43 (rd M43 x0 5) 20 ∧ 0 + 2 ≤ (mT M43 (rd M43 x1 5)).2 ∧ 0 + 2 ≤ (mT M43 (rd M43 x0 5)).2 ∧ ∀ M50, M50 = cpM M43 (rd M43 x1 5) 0 (rd M43 x0 5) 0 2 → okO M50 x1 3 ∧ okO M50 x0 3 ∧ okO M50 (rd M50 x1 6) 20 ∧ okO M50 (rd M50 x0 6) 20 ∧ 0 + 2 ≤ (mT M50 (rd M50 x1 6)).2 ∧ 0 + 2 ≤ (mT M50 (rd M50 x0 6)).2 ∧ ∀ M57, M57 = cpM M50 (rd M50 x1 6) 0 (rd M50 x0 6) 0 2 → okO M57 x1 3 ∧ okO M57 x0 3 ∧ okO M57 (rd M57 x1 7) 20 ∧ okO M57 (rd M57 x0 7) 20 ∧ 0 + 3 ≤ (mT M57 (rd M57 x1 7)).2 ∧ 0 + 3 ≤ (mT M57 (rd M57 x0 7)).2 ∧ ∀ M64, M64 = cpM M57 (rd M57 x1 7) 0 (rd M57 x0 7) 0 3 → okO M64 x1 3 ∧ okO M64 x0 3 ∧ okO M64 (rd M64 x1 8) 24 ∧ okO M64 (rd M64 x0 8) 24 ∧ 0 + 6 ≤ (mT M64 (rd M64 x1 8)).2 ∧ 0 + 6 ≤ (mT M64 (rd M64 x0 8)).2 ∧ ((∀ q, 0 ≤ q → q < 0 + 6 → rd M64 (rd M64 x1 8) q = -1 ∨ okO M64 (rd M64 (rd M64 x1 8) q) 4)) ∧ ∀ M71, M71 = cpM M64 (rd M64 x1 8) 0 (rd M64 x0 8) 0 6 → okO M71 x1 3 ∧ okO M71 x0 3 ∧ okO M71 (rd M71 x1 11) 20 ∧ okO M71 (rd M71 x0 11) 20 ∧ 0 + 5 ≤ (mT M71 (rd M71 x1 11)).2 ∧ 0 + 5 ≤ (mT M71 (rd M71 x0 11)).2 ∧ ∀ M79, M79 = cpM M71 (rd M71 x1 11) 0 (rd M71 x0 11) 0 5 → okO M79 x1 3 ∧ okO M79 x0 3 ∧ okO M79 (rd M79 x1 14) 20 ∧ okO M79 (rd M79 x0 14) 20 ∧ 0 + 6 ≤ (mT M79 (rd M79 x1 14)).2 ∧ 0 + 6 ≤ (mT M79 (rd M79 x0 14)).2 ∧ ∀ M86, M86 = cpM M79 (rd M79 x1 14) 0 (rd M79 x0 14) 0 6 → okO M86 x1 3 ∧ okO M86 x0 3 ∧ okO M86 (rd M86 x1 15) 20 ∧ okO M86 (rd M86 x0 15) 20 ∧ 0 + 5 ≤ (mT M86 (rd M86 x1 15)).2 ∧ 0 + 5 ≤ (mT M86 (rd M86 x0 15)).2 ∧ ∀ M93, M93 = cpM M86 (rd M86 x1 15) 0 (rd M86 x0 15) 0 5 → Q vU M93) : X G Y_X4_becomes d k n 0 [vA x0, vA x1] [] M Q := by
  have hd1 : 1 ≤ d := by omega
  refine x_aload_n (dA D_X4_becomes 0 rfl) rfl ?_
  refine x_aload_n (dA D_X4_becomes 1 rfl) rfl ?_
  obtain ⟨h1, h⟩ := h
  refine x_get (v := vI (rd M x1 0)) (dA D_X4_becomes 2 rfl) fw_RX4_9 h1 rfl ?_
  obtain ⟨h2, h⟩ := h
  refine x_put (x := rd M x1 0) (dA D_X4_becomes 3 rfl) fw_RX4_9 (fun _ _ hc => by cases hc; exact Or.inl rfl) h2 rfl rfl rfl ?_
  refine x_nmM (fun M3 eM3 => ?_)
  have h := h M3 eM3
  refine x_aload_n (dA D_X4_becomes 4 rfl) rfl ?_
  refine x_aload_n (dA D_X4_becomes 5 rfl) rfl ?_
  obtain ⟨h4, h⟩ := h
  refine x_get (v := vI (rd M3 x1 9)) (dA D_X4_becomes 6 rfl) fw_RX4_43 h4 rfl ?_
  obtain ⟨h5, h⟩ := h
  refine x_put (x := rd M3 x1 9) (dA D_X4_becomes 7 rfl) fw_RX4_43 (fun _ _ hc => by cases hc; exact Or.inl rfl) h5 rfl rfl rfl ?_
  refine x_nmM (fun M6 eM6 => ?_)
  have h := h M6 eM6
  refine x_aload_n (dA D_X4_becomes 8 rfl) rfl ?_
  refine x_aload_n (dA D_X4_becomes 9 rfl) rfl ?_
  obtain ⟨h7, h⟩ := h
  refine x_get (v := vI (rd M6 x1 10)) (dA D_X4_becomes 10 rfl) fw_RX4_46 h7 rfl ?_
  obtain ⟨h8, h⟩ := h
  refine x_put (x := rd M6 x1 10) (dA D_X4_becomes 11 rfl) fw_RX4_46 (fun _ _ hc => by cases hc; exact Or.inl rfl) h8 rfl rfl rfl ?_
  refine x_nmM (fun M9 eM9 => ?_)
  have h := h M9 eM9
  refine x_aload_n (dA D_X4_becomes 12 rfl) rfl ?_
  refine x_aload_n (dA D_X4_becomes 13 rfl) rfl ?_
  obtain ⟨h10, h⟩ := h
  refine x_get (v := vI (rd M9 x1 12)) (dA D_X4_becomes 14 rfl) fw_RX4_52 h10 rfl ?_
  obtain ⟨h11, h⟩ := h
  refine x_put (x := rd M9 x1 12) (dA D_X4_becomes 15 rfl) fw_RX4_52 (fun _ _ hc => by cases hc; exact Or.inl rfl) h11 rfl rfl rfl ?_
  refine x_nmM (fun M12 eM12 => ?_)
  have h := h M12 eM12
  refine x_aload_n (dA D_X4_becomes 16 rfl) rfl ?_
  refine x_aload_n (dA D_X4_becomes 17 rfl) rfl ?_
  obtain ⟨h13, h⟩ := h
  refine x_get (v := vI (rd M12 x1 13)) (dA D_X4_becomes 18 rfl) fw_RX4_55 h13 rfl ?_
  obtain ⟨h14, h⟩ := h
  obtain ⟨h16, h⟩ := h
  refine x_put (x := rd M12 x1 13) (dA D_X4_becomes 19 rfl) fw_RX4_55 (fun _ _ hc => by cases hc; exact Or.inl rfl) h14 rfl (z_nar h16) (z_fit h16) ?_
  refine x_nmM (fun M15 eM15 => ?_)
  have h := h M15 eM15
  refine x_aload_n (dA D_X4_becomes 20 rfl) rfl ?_
  refine x_aload_n (dA D_X4_becomes 21 rfl) rfl ?_
  obtain ⟨h17, h⟩ := h
  refine x_get (v := vI (rd M15 x1 16)) (dA D_X4_becomes 22 rfl) fw_RX4_65 h17 rfl ?_
  obtain ⟨h18, h⟩ := h
  refine x_put (x := rd M15 x1 16) (dA D_X4_becomes 23 rfl) fw_RX4_65 (fun _ _ hc => by cases hc; exact Or.inl rfl) h18 rfl rfl rfl ?_
  refine x_nmM (fun M19 eM19 => ?_)
  have h := h M19 eM19
  refine x_aload_n (dA D_X4_becomes 24 rfl) rfl ?_
  obtain ⟨h20, h⟩ := h
  refine x_get (v := vA (rd M19 x1 1)) (dA D_X4_becomes 25 rfl) fw_RX4_15 h20 rfl ?_
  refine x_iconst (dA D_X4_becomes 26 rfl) ?_
  refine x_aload_n (dA D_X4_becomes 27 rfl) rfl ?_
  obtain ⟨h21, h⟩ := h
  refine x_get (v := vA (rd M19 x0 1)) (dA D_X4_becomes 28 rfl) fw_RX4_15 h21 rfl ?_
  refine x_iconst (dA D_X4_becomes 29 rfl) ?_
  refine x_iconst (dA D_X4_becomes 30 rfl) ?_
  obtain ⟨h23, h⟩ := h
  obtain ⟨h24, h⟩ := h
  obtain ⟨h25, h⟩ := h
  obtain ⟨h26, h⟩ := h
  refine x_copy 20 [] (by decide) (dA D_X4_becomes 31 rfl) ⟨ml_RX4_68, w_an, w_as, w_ai⟩ (by decide) hd1 h23 h24 (by decide) (by decide) (by decide) h25 h26 (fun e => absurd e (by decide)) ?_
  refine x_nmM (fun M22 eM22 => ?_)
  have h := h M22 eM22
  refine x_aload_n (dA D_X4_becomes 32 rfl) rfl ?_
  obtain ⟨h27, h⟩ := h
  refine x_get (v := vA (rd M22 x1 2)) (dA D_X4_becomes 33 rfl) fw_RX4_19 h27 rfl ?_
  refine x_iconst (dA D_X4_becomes 34 rfl) ?_
  refine x_aload_n (dA D_X4_becomes 35 rfl) rfl ?_
  obtain ⟨h28, h⟩ := h
  refine x_get (v := vA (rd M22 x0 2)) (dA D_X4_becomes 36 rfl) fw_RX4_19 h28 rfl ?_
  refine x_iconst (dA D_X4_becomes 37 rfl) ?_
  refine x_iconst (dA D_X4_becomes 38 rfl) ?_
  obtain ⟨h30, h⟩ := h
  obtain ⟨h31, h⟩ := h
  obtain ⟨h32, h⟩ := h
  obtain ⟨h33, h⟩ := h
  refine x_copy 20 [] (by decide) (dA D_X4_becomes 39 rfl) ⟨ml_RX4_68, w_an, w_as, w_ai⟩ (by decide) hd1 h30 h31 (by decide) (by decide) (by decide) h32 h33 (fun e => absurd e (by decide)) ?_
  refine x_nmM (fun M29 eM29 => ?_)
  have h := h M29 eM29
  refine x_aload_n (dA D_X4_becomes 40 rfl) rfl ?_
  obtain ⟨h34, h⟩ := h
  refine x_get (v := vA (rd M29 x1 3)) (dA D_X4_becomes 41 rfl) fw_RX4_22 h34 rfl ?_
  refine x_iconst (dA D_X4_becomes 42 rfl) ?_
  refine x_aload_n (dA D_X4_becomes 43 rfl) rfl ?_
  obtain ⟨h35, h⟩ := h
  refine x_get (v := vA (rd M29 x0 3)) (dA D_X4_becomes 44 rfl) fw_RX4_22 h35 rfl ?_
  refine x_iconst (dA D_X4_becomes 45 rfl) ?_
  refine x_iconst (dA D_X4_becomes 46 rfl) ?_
  obtain ⟨h37, h⟩ := h
  obtain ⟨h38, h⟩ := h
  obtain ⟨h39, h⟩ := h
  obtain ⟨h40, h⟩ := h
  refine x_copy 20 [] (by decide) (dA D_X4_becomes 47 rfl) ⟨ml_RX4_68, w_an, w_as, w_ai⟩ (by decide) hd1 h37 h38 (by decide) (by decide) (by decide) h39 h40 (fun e => absurd e (by decide)) ?_
  refine x_nmM (fun M36 eM36 => ?_)
  have h := h M36 eM36
  refine x_aload_n (dA D_X4_becomes 48 rfl) rfl ?_
  obtain ⟨h41, h⟩ := h
  refine x_get (v := vA (rd M36 x1 4)) (dA D_X4_becomes 49 rfl) fw_RX4_25 h41 rfl ?_
  refine x_iconst (dA D_X4_becomes 50 rfl) ?_
  refine x_aload_n (dA D_X4_becomes 51 rfl) rfl ?_
  obtain ⟨h42, h⟩ := h
  refine x_get (v := vA (rd M36 x0 4)) (dA D_X4_becomes 52 rfl) fw_RX4_25 h42 rfl ?_
  refine x_iconst (dA D_X4_becomes 53 rfl) ?_
  refine x_iconst (dA D_X4_becomes 54 rfl) ?_
  obtain ⟨h44, h⟩ := h
  obtain ⟨h45, h⟩ := h
  obtain ⟨h46, h⟩ := h
  obtain ⟨h47, h⟩ := h
  refine x_copy 20 [] (by decide) (dA D_X4_becomes 55 rfl) ⟨ml_RX4_68, w_an, w_as, w_ai⟩ (by decide) hd1 h44 h45 (by decide) (by decide) (by decide) h46 h47 (fun e => absurd e (by decide)) ?_
  refine x_nmM (fun M43 eM43 => ?_)
  have h := h M43 eM43
  refine x_aload_n (dA D_X4_becomes 56 rfl) rfl ?_
  obtain ⟨h48, h⟩ := h
  refine x_get (v := vA (rd M43 x1 5)) (dA D_X4_becomes 57 rfl) fw_RX4_28 h48 rfl ?_
  refine x_iconst (dA D_X4_becomes 58 rfl) ?_
  refine x_aload_n (dA D_X4_becomes 59 rfl) rfl ?_
  obtain ⟨h49, h⟩ := h
  refine x_get (v := vA (rd M43 x0 5)) (dA D_X4_becomes 60 rfl) fw_RX4_28 h49 rfl ?_
  refine x_iconst (dA D_X4_becomes 61 rfl) ?_
  refine x_iconst (dA D_X4_becomes 62 rfl) ?_
  obtain ⟨h51, h⟩ := h
  obtain ⟨h52, h⟩ := h
  obtain ⟨h53, h⟩ := h
  obtain ⟨h54, h⟩ := h
  refine x_copy 20 [] (by decide) (dA D_X4_becomes 63 rfl) ⟨ml_RX4_68, w_an, w_as, w_ai⟩ (by decide) hd1 h51 h52 (by decide) (by decide) (by decide) h53 h54 (fun e => absurd e (by decide)) ?_
  refine x_nmM (fun M50 eM50 => ?_)
  have h := h M50 eM50
  refine x_aload_n (dA D_X4_becomes 64 rfl) rfl ?_
  obtain ⟨h55, h⟩ := h
  refine x_get (v := vA (rd M50 x1 6)) (dA D_X4_becomes 65 rfl) fw_RX4_31 h55 rfl ?_
  refine x_iconst (dA D_X4_becomes 66 rfl) ?_
  refine x_aload_n (dA D_X4_becomes 67 rfl) rfl ?_
  obtain ⟨h56, h⟩ := h
  refine x_get (v := vA (rd M50 x0 6)) (dA D_X4_becomes 68 rfl) fw_RX4_31 h56 rfl ?_
  refine x_iconst (dA D_X4_becomes 69 rfl) ?_
  refine x_iconst (dA D_X4_becomes 70 rfl) ?_
  obtain ⟨h58, h⟩ := h
  obtain ⟨h59, h⟩ := h
  obtain ⟨h60, h⟩ := h
  obtain ⟨h61, h⟩ := h
  refine x_copy 20 [] (by decide) (dA D_X4_becomes 71 rfl) ⟨ml_RX4_68, w_an, w_as, w_ai⟩ (by decide) hd1 h58 h59 (by decide) (by decide) (by decide) h60 h61 (fun e => absurd e (by decide)) ?_
  refine x_nmM (fun M57 eM57 => ?_)
  have h := h M57 eM57
  refine x_aload_n (dA D_X4_becomes 72 rfl) rfl ?_
  obtain ⟨h62, h⟩ := h
  refine x_get (v := vA (rd M57 x1 7)) (dA D_X4_becomes 73 rfl) fw_RX4_34 h62 rfl ?_
  refine x_iconst (dA D_X4_becomes 74 rfl) ?_
  refine x_aload_n (dA D_X4_becomes 75 rfl) rfl ?_
  obtain ⟨h63, h⟩ := h
  refine x_get (v := vA (rd M57 x0 7)) (dA D_X4_becomes 76 rfl) fw_RX4_34 h63 rfl ?_
  refine x_iconst (dA D_X4_becomes 77 rfl) ?_
  refine x_iconst (dA D_X4_becomes 78 rfl) ?_
  obtain ⟨h65, h⟩ := h
  obtain ⟨h66, h⟩ := h
  obtain ⟨h67, h⟩ := h
  obtain ⟨h68, h⟩ := h
  refine x_copy 20 [] (by decide) (dA D_X4_becomes 79 rfl) ⟨ml_RX4_68, w_an, w_as, w_ai⟩ (by decide) hd1 h65 h66 (by decide) (by decide) (by decide) h67 h68 (fun e => absurd e (by decide)) ?_
  refine x_nmM (fun M64 eM64 => ?_)
  have h := h M64 eM64
  refine x_aload_n (dA D_X4_becomes 80 rfl) rfl ?_
  obtain ⟨h69, h⟩ := h
  refine x_get (v := vA (rd M64 x1 8)) (dA D_X4_becomes 81 rfl) fw_RX4_39 h69 rfl ?_
  refine x_iconst (dA D_X4_becomes 82 rfl) ?_
  refine x_aload_n (dA D_X4_becomes 83 rfl) rfl ?_
  obtain ⟨h70, h⟩ := h
  refine x_get (v := vA (rd M64 x0 8)) (dA D_X4_becomes 84 rfl) fw_RX4_39 h70 rfl ?_
  refine x_iconst (dA D_X4_becomes 85 rfl) ?_
  refine x_bipush (dA D_X4_becomes 86 rfl) (by decide) (by decide) ?_
  obtain ⟨h72, h⟩ := h
  obtain ⟨h73, h⟩ := h
  obtain ⟨h74, h⟩ := h
  obtain ⟨h75, h⟩ := h
  obtain ⟨h76, h⟩ := h
  refine x_copy 24 [] (by decide) (dA D_X4_becomes 87 rfl) ⟨ml_RX4_68, w_an, w_as, w_ai⟩ (by decide) hd1 h72 h73 (by decide) (by decide) (by decide) h74 h75 (fun _ => h76) ?_
  refine x_nmM (fun M71 eM71 => ?_)
  have h := h M71 eM71
  refine x_aload_n (dA D_X4_becomes 88 rfl) rfl ?_
  obtain ⟨h77, h⟩ := h
  refine x_get (v := vA (rd M71 x1 11)) (dA D_X4_becomes 89 rfl) fw_RX4_49 h77 rfl ?_
  refine x_iconst (dA D_X4_becomes 90 rfl) ?_
  refine x_aload_n (dA D_X4_becomes 91 rfl) rfl ?_
  obtain ⟨h78, h⟩ := h
  refine x_get (v := vA (rd M71 x0 11)) (dA D_X4_becomes 92 rfl) fw_RX4_49 h78 rfl ?_
  refine x_iconst (dA D_X4_becomes 93 rfl) ?_
  refine x_iconst (dA D_X4_becomes 94 rfl) ?_
  obtain ⟨h80, h⟩ := h
  obtain ⟨h81, h⟩ := h
  obtain ⟨h82, h⟩ := h
  obtain ⟨h83, h⟩ := h
  refine x_copy 20 [] (by decide) (dA D_X4_becomes 95 rfl) ⟨ml_RX4_68, w_an, w_as, w_ai⟩ (by decide) hd1 h80 h81 (by decide) (by decide) (by decide) h82 h83 (fun e => absurd e (by decide)) ?_
  refine x_nmM (fun M79 eM79 => ?_)
  have h := h M79 eM79
  refine x_aload_n (dA D_X4_becomes 96 rfl) rfl ?_
  obtain ⟨h84, h⟩ := h
  refine x_get (v := vA (rd M79 x1 14)) (dA D_X4_becomes 97 rfl) fw_RX4_59 h84 rfl ?_
  refine x_iconst (dA D_X4_becomes 98 rfl) ?_
  refine x_aload_n (dA D_X4_becomes 99 rfl) rfl ?_
  obtain ⟨h85, h⟩ := h
  refine x_get (v := vA (rd M79 x0 14)) (dA D_X4_becomes 100 rfl) fw_RX4_59 h85 rfl ?_
  refine x_iconst (dA D_X4_becomes 101 rfl) ?_
  refine x_bipush (dA D_X4_becomes 102 rfl) (by decide) (by decide) ?_
  obtain ⟨h87, h⟩ := h
  obtain ⟨h88, h⟩ := h
  obtain ⟨h89, h⟩ := h
  obtain ⟨h90, h⟩ := h
  refine x_copy 20 [] (by decide) (dA D_X4_becomes 103 rfl) ⟨ml_RX4_68, w_an, w_as, w_ai⟩ (by decide) hd1 h87 h88 (by decide) (by decide) (by decide) h89 h90 (fun e => absurd e (by decide)) ?_
  refine x_nmM (fun M86 eM86 => ?_)
  have h := h M86 eM86
  refine x_aload_n (dA D_X4_becomes 104 rfl) rfl ?_
  obtain ⟨h91, h⟩ := h
  refine x_get (v := vA (rd M86 x1 15)) (dA D_X4_becomes 105 rfl) fw_RX4_62 h91 rfl ?_
  refine x_iconst (dA D_X4_becomes 106 rfl) ?_
  refine x_aload_n (dA D_X4_becomes 107 rfl) rfl ?_
  obtain ⟨h92, h⟩ := h
  refine x_get (v := vA (rd M86 x0 15)) (dA D_X4_becomes 108 rfl) fw_RX4_62 h92 rfl ?_
  refine x_iconst (dA D_X4_becomes 109 rfl) ?_
  refine x_iconst (dA D_X4_becomes 110 rfl) ?_
  obtain ⟨h94, h⟩ := h
  obtain ⟨h95, h⟩ := h
  obtain ⟨h96, h⟩ := h
  obtain ⟨h97, h⟩ := h
  refine x_copy 20 [] (by decide) (dA D_X4_becomes 111 rfl) ⟨ml_RX4_68, w_an, w_as, w_ai⟩ (by decide) hd1 h94 h95 (by decide) (by decide) (by decide) h96 h97 (fun e => absurd e (by decide)) ?_
  refine x_nmM (fun M93 eM93 => ?_)
  have h := h M93 eM93
  exact x_return (dA D_X4_becomes 112 rfl) rfl h
theorem C_X4_becomes {G : GG} {d : Nat} {x0 x1 : Int} {M : MM} {Q : PV → MM → Prop} (h : X G Y_X4_becomes d 0 0 0 [vA x0, vA x1] [] M Q) : C G Y_X4_becomes d 0 0 [vA x0, vA x1] M Q := X.entry (by decide) (Nat.le_of_ble_eq_true rfl) rfl rfl rfl h
set_option maxRecDepth 100000 in
theorem B_X11_scene_0 {G : GG} {d : Nat} {k n : Nat} {x1 x2 x3 : Int} {r : Int → Int} {M : MM} {Q : PV → MM → Prop} (hd : 3 ≤ d) (hS : Sh M) (h : HR M r ∧ RS r ∧ inR x1 ∧ inR x2 ∧ inR x3 ∧ ((coBe (r 0) x1 x2 x3 → inR (rd M 1 0) ∧ (((rd M 1 0) ≠ 5 → C G Y_X4_addScene (d - 1) 0 0 [vA 1, vI x1, vI x2, vI x3] M (rU (fun M7 => Sh M7 ∧ C G Y_X6_lawsChanged (d - 1) 0 0 [vA 39] M7 (rU (fun M8 => Sh M8 ∧ ∀ M9, M9 = accM M8 → Sh M9 → Q (vI ((rd M8 1 0) - 1)) M9))))) ∧ ((rd M 1 0) = 5 → ∀ M10, M10 = refM M (-5 : Int) → Sh M10 → Q (vI (-5 : Int)) M10))) ∧ (¬ (coBe (r 0) x1 x2 x3) → ∀ M11, M11 = refM M (-1 : Int) → Sh M11 → Q (vI (-1 : Int)) M11))) : X G Y_X11_scene d k n 0 [vA 0, vI x1, vI x2, vI x3] [] M Q := by
  have hd1 : 1 ≤ d := by omega
  refine x_aload_n (dA D_X11_scene 0 rfl) rfl ?_
  refine x_get (v := vA 1) (dA D_X11_scene 1 rfl) fw_RX11_12 (sO_0 hS) (congrArg (rfV G) (sR_0_0 hS)) ?_
  refine x_iload_n (dA D_X11_scene 2 rfl) rfl ?_
  refine x_iload_n (dA D_X11_scene 3 rfl) rfl ?_
  refine x_iload_n (dA D_X11_scene 4 rfl) rfl ?_
  obtain ⟨h1, h⟩ := h
  obtain ⟨h2, h⟩ := h
  obtain ⟨h3, h⟩ := h
  obtain ⟨h4, h⟩ := h
  obtain ⟨h5, h⟩ := h
  refine x_callV 3 [vI x1, vI x2, vI x3] [] (dA D_X11_scene 5 rfl) cw_RX11_100 rfl rfl (Nat.le_of_ble_eq_true rfl) (by decide) rfl hd1 (zk k) (zk n) (sO_1 hS) (S_X4_couldBe hS h1 h2 h3 h4 h5 (by omega) ?_) (kI (fun _ _ h => h))
  show X G Y_X11_scene d k n 10 [vA 0, vI x1, vI x2, vI x3] [vI (if coBe (r 0) x1 x2 x3 then 1 else 0)] M Q
  refine x_if_neB (tgt := 19) (dA D_X11_scene 6 rfl) (by decide) ⟨fun c => ?_, fun c => ?_⟩
  · have h := h.1 c
    refine x_aload_n (dA D_X11_scene 11 rfl) rfl ?_
    refine x_get (v := vA 1) (dA D_X11_scene 12 rfl) fw_RX11_12 (sO_0 hS) (congrArg (rfV G) (sR_0_0 hS)) ?_
    refine x_get (v := vI (rd M 1 0)) (dA D_X11_scene 13 rfl) fw_RX11_108 (sO_1 hS) rfl ?_
    refine x_iconst (dA D_X11_scene 14 rfl) ?_
    obtain ⟨h6, h⟩ := h
    refine x_icmp_neP (tgt := 37) (dA D_X11_scene 15 rfl) (by decide) h6 ⟨by decide, by decide⟩ ⟨fun c => ?_, fun c => ?_⟩
    · have h := h.1 c
      refine x_aload_n (dA D_X11_scene 20 rfl) rfl ?_
      refine x_get (v := vA 1) (dA D_X11_scene 21 rfl) fw_RX11_12 (sO_0 hS) (congrArg (rfV G) (sR_0_0 hS)) ?_
      refine x_iload_n (dA D_X11_scene 22 rfl) rfl ?_
      refine x_iload_n (dA D_X11_scene 23 rfl) rfl ?_
      refine x_iload_n (dA D_X11_scene 24 rfl) rfl ?_
      refine x_callV 3 [vI x1, vI x2, vI x3] [] (dA D_X11_scene 25 rfl) cw_RX11_111 rfl rfl (Nat.le_of_ble_eq_true rfl) (by decide) rfl hd1 (zk k) (zk n) (sO_1 hS) h (kU (fun M7 h => ?_))
      obtain ⟨hM7, h⟩ := h
      refine x_aload_n (dA D_X11_scene 26 rfl) rfl ?_
      refine x_get (v := vA 39) (dA D_X11_scene 27 rfl) fw_RX11_79 (sO_0 hM7) (congrArg (rfV G) (sR_0_12 hM7)) ?_
      refine x_callV 5 [] [] (dA D_X11_scene 28 rfl) cw_RX11_115 rfl rfl (Nat.le_of_ble_eq_true rfl) (by decide) rfl hd1 (zk k) (zk n) (sO_39 hM7) h (kU (fun M8 h => ?_))
      obtain ⟨hM8, h⟩ := h
      refine x_aload_n (dA D_X11_scene 29 rfl) rfl ?_
      refine x_aload_n (dA D_X11_scene 30 rfl) rfl ?_
      refine x_get (v := vA 1) (dA D_X11_scene 31 rfl) fw_RX11_12 (sO_0 hM8) (congrArg (rfV G) (sR_0_0 hM8)) ?_
      refine x_get (v := vI (rd M8 1 0)) (dA D_X11_scene 32 rfl) fw_RX11_108 (sO_1 hM8) rfl ?_
      refine x_iconst (dA D_X11_scene 33 rfl) ?_
      refine x_isub (dA D_X11_scene 34 rfl) ?_
      refine x_callV 10 [vI ((rd M8 1 0) - 1)] [] (dA D_X11_scene 35 rfl) cw_RX11_118 rfl rfl (Nat.le_of_ble_eq_true rfl) (by decide) rfl hd1 (zk k) (zk n) (sO_0 hM8) (S_X11_accept hM8  (by omega) ?_) (kI (fun _ _ h => h))
      refine x_nmM (fun M9 eM9 => ?_)
      have hM9 : Sh M9 := eM9 ▸ (sW_0_7 hM8)
      have h := h M9 eM9 hM9
      show X G Y_X11_scene d k n 67 [vA 0, vI x1, vI x2, vI x3] [vI ((rd M8 1 0) - 1)] M9 Q
      exact x_ireturn (dA D_X11_scene 36 rfl) rfl h
    · have h := h.2 c
      refine x_aload_n (dA D_X11_scene 16 rfl) rfl ?_
      refine x_bipush (dA D_X11_scene 17 rfl) (by decide) (by decide) ?_
      refine x_callV 10 [vI (-5)] [] (dA D_X11_scene 18 rfl) cw_RX11_104 rfl rfl (Nat.le_of_ble_eq_true rfl) (by decide) rfl hd1 (zk k) (zk n) (sO_0 hS) (S_X11_refuse hS ⟨by decide, by decide, by decide, by decide⟩ (by omega) ?_) (kI (fun _ _ h => h))
      refine x_nmM (fun M10 eM10 => ?_)
      have hM10 : Sh M10 := eM10 ▸ (sRef hS)
      have h := h M10 eM10 hM10
      show X G Y_X11_scene d k n 36 [vA 0, vI x1, vI x2, vI x3] [vI (-5 : Int)] M10 Q
      exact x_ireturn (dA D_X11_scene 19 rfl) rfl h
  · have h := h.2 c
    refine x_aload_n (dA D_X11_scene 7 rfl) rfl ?_
    refine x_iconst (dA D_X11_scene 8 rfl) ?_
    refine x_callV 10 [vI (-1)] [] (dA D_X11_scene 9 rfl) cw_RX11_104 rfl rfl (Nat.le_of_ble_eq_true rfl) (by decide) rfl hd1 (zk k) (zk n) (sO_0 hS) (S_X11_refuse hS ⟨by decide, by decide, by decide, by decide⟩ (by omega) ?_) (kI (fun _ _ h => h))
    refine x_nmM (fun M11 eM11 => ?_)
    have hM11 : Sh M11 := eM11 ▸ (sRef hS)
    have h := h M11 eM11 hM11
    show X G Y_X11_scene d k n 18 [vA 0, vI x1, vI x2, vI x3] [vI (-1 : Int)] M11 Q
    exact x_ireturn (dA D_X11_scene 10 rfl) rfl h
theorem C_X11_scene {G : GG} {d : Nat} {x1 x2 x3 : Int} {M : MM} {Q : PV → MM → Prop} (h : X G Y_X11_scene d 0 0 0 [vA 0, vI x1, vI x2, vI x3] [] M Q) : C G Y_X11_scene d 0 0 [vA 0, vI x1, vI x2, vI x3] M Q := X.entry (by decide) (Nat.le_of_ble_eq_true rfl) rfl rfl rfl h
set_option maxRecDepth 100000 in
theorem B_X11_put_0 {G : GG} {d : Nat} {k n : Nat} {x1 x2 x3 : Int} {M : MM} {Q : PV → MM → Prop} (hd : 2 ≤ d) (hS : Sh M) (h : inR x2 ∧ inR x3 ∧ ((¬ ((x2 = 0 ∧ 1 ≤ x3 ∧ x3 ≤ 60) ∨ (x2 = 1 ∧ 0 ≤ x3 ∧ x3 < 32) ∨ (x2 = 2 ∧ (x3 = 0 ∨ x3 = 1))) → ∀ M3, M3 = refM M (-1 : Int) → Sh M3 → Q (vI (-1 : Int)) M3) ∧ ((x2 = 0 ∧ 1 ≤ x3 ∧ x3 ≤ 60) ∨ (x2 = 1 ∧ 0 ≤ x3 ∧ x3 < 32) ∨ (x2 = 2 ∧ (x3 = 0 ∨ x3 = 1)) → ((x2 ≠ 1 → X G Y_X11_put d k n 27 [vA 0, vI x1, vI x2, vI x3, vU, vU] [] M Q) ∧ (x2 = 1 → inR x1 ∧ ((¬ ((0 ≤ x1) ∧ ((x1 < 5) ∧ ((iAnd (iShr x3 x1) 1) = 1))) → X G Y_X11_put d k n 27 [vA 0, vI x1, vI x2, vI x3, vU, vU] [] M Q) ∧ ((0 ≤ x1) ∧ ((x1 < 5) ∧ ((iAnd (iShr x3 x1) 1) = 1)) → ∀ M5, M5 = refM M (-1 : Int) → Sh M5 → Q (vI (-1 : Int)) M5))))))) : X G Y_X11_put d k n 0 [vA 0, vI x1, vI x2, vI x3, vU, vU] [] M Q := by
  have hd1 : 1 ≤ d := by omega
  refine x_iload_n (dA D_X11_put 0 rfl) rfl ?_
  refine x_iload_n (dA D_X11_put 1 rfl) rfl ?_
  obtain ⟨h1, h⟩ := h
  obtain ⟨h2, h⟩ := h
  refine x_callS [vI x2, vI x3] [] (dA D_X11_put 2 rfl) cw_RX11_121 rfl rfl (Nat.le_of_ble_eq_true rfl) hd1 (zk k) (zk n) (S_X4_fitsScene h1 h2 (by omega) ?_) (kI (fun _ _ h => h))
  show X G Y_X11_put d k n 5 [vA 0, vI x1, vI x2, vI x3, vU, vU] [vI (if (x2 = 0 ∧ 1 ≤ x3 ∧ x3 ≤ 60) ∨ (x2 = 1 ∧ 0 ≤ x3 ∧ x3 < 32) ∨ (x2 = 2 ∧ (x3 = 0 ∨ x3 = 1)) then 1 else 0)] M Q
  refine x_if_eqB (tgt := 21) (dA D_X11_put 3 rfl) (by decide) ⟨fun c => ?_, fun c => ?_⟩
  · have h := h.1 c
    refine x_aload_n (dA D_X11_put 11 rfl) rfl ?_
    refine x_iconst (dA D_X11_put 12 rfl) ?_
    refine x_callV 10 [vI (-1)] [] (dA D_X11_put 13 rfl) cw_RX11_104 rfl rfl (Nat.le_of_ble_eq_true rfl) (by decide) rfl hd1 (zk k) (zk n) (sO_0 hS) (S_X11_refuse hS ⟨by decide, by decide, by decide, by decide⟩ (by omega) ?_) (kI (fun _ _ h => h))
    refine x_nmM (fun M3 eM3 => ?_)
    have hM3 : Sh M3 := eM3 ▸ (sRef hS)
    have h := h M3 eM3 hM3
    show X G Y_X11_put d k n 26 [vA 0, vI x1, vI x2, vI x3, vU, vU] [vI (-1 : Int)] M3 Q
    exact x_ireturn (dA D_X11_put 14 rfl) rfl h
  · have h := h.2 c
    refine x_iload_n (dA D_X11_put 4 rfl) rfl ?_
    refine x_iconst (dA D_X11_put 5 rfl) ?_
    refine x_icmp_neP (tgt := 27) (dA D_X11_put 6 rfl) (by decide) h1 ⟨by decide, by decide⟩ ⟨fun c => ?_, fun c => ?_⟩
    · have h := h.1 c
      exact h
    · have h := h.2 c
      refine x_iload_n (dA D_X11_put 7 rfl) rfl ?_
      refine x_iload_n (dA D_X11_put 8 rfl) rfl ?_
      obtain ⟨h4, h⟩ := h
      refine x_callS [vI x3, vI x1] [] (dA D_X11_put 9 rfl) cw_RX11_125 rfl rfl (Nat.le_of_ble_eq_true rfl) hd1 (zk k) (zk n) (S_X4_holds h4 (by omega) ?_) (kI (fun _ _ h => h))
      show X G Y_X11_put d k n 18 [vA 0, vI x1, vI x2, vI x3, vU, vU] [vI (if (0 ≤ x1) ∧ ((x1 < 5) ∧ ((iAnd (iShr x3 x1) 1) = 1)) then 1 else 0)] M Q
      refine x_if_eqB (tgt := 27) (dA D_X11_put 10 rfl) (by decide) ⟨fun c => ?_, fun c => ?_⟩
      · have h := h.1 c
        exact h
      · have h := h.2 c
        refine x_aload_n (dA D_X11_put 11 rfl) rfl ?_
        refine x_iconst (dA D_X11_put 12 rfl) ?_
        refine x_callV 10 [vI (-1)] [] (dA D_X11_put 13 rfl) cw_RX11_104 rfl rfl (Nat.le_of_ble_eq_true rfl) (by decide) rfl hd1 (zk k) (zk n) (sO_0 hS) (S_X11_refuse hS ⟨by decide, by decide, by decide, by decide⟩ (by omega) ?_) (kI (fun _ _ h => h))
        refine x_nmM (fun M5 eM5 => ?_)
        have hM5 : Sh M5 := eM5 ▸ (sRef hS)
        have h := h M5 eM5 hM5
        show X G Y_X11_put d k n 26 [vA 0, vI x1, vI x2, vI x3, vU, vU] [vI (-1 : Int)] M5 Q
        exact x_ireturn (dA D_X11_put 14 rfl) rfl h
theorem C_X11_put {G : GG} {d : Nat} {x1 x2 x3 : Int} {M : MM} {Q : PV → MM → Prop} (h : X G Y_X11_put d 0 0 0 [vA 0, vI x1, vI x2, vI x3, vU, vU] [] M Q) : C G Y_X11_put d 0 0 [vA 0, vI x1, vI x2, vI x3] M Q := X.entry (by decide) (Nat.le_of_ble_eq_true rfl) rfl rfl rfl h
set_option maxRecDepth 100000 in
theorem B_X11_put_27 {G : GG} {d : Nat} {k n : Nat} {x1 x2 x3 : Int} {M : MM} {Q : PV → MM → Prop} (hd : 2 ≤ d) (hS : Sh M) (h : inR x1 ∧ inR (rd M 1 0) ∧ (((0 ≤ x1) ∧ (x1 < (rd M 1 0)) → inR x2 ∧ ∀ v19, v19 = (if x2 ≠ 0 then (if x2 ≠ 1 then 4 else 3) else 2) → okA M v19 20 x1 ∧ ∀ v21, v21 = rd M v19 x1 → ∀ M22, M22 = wr M v19 x1 x3 → Sh M22 ∧ C G Y_X6_lawsChanged (d - 1) 0 0 [vA 39] M22 (rU (fun M23 => Sh M23 ∧ ∀ M24, M24 = accM M23 → Sh M24 → Q (vI v21) M24))) ∧ (¬ ((0 ≤ x1) ∧ (x1 < (rd M 1 0))) → ∀ M25, M25 = refM M (-2 : Int) → Sh M25 → Q (vI (-2 : Int)) M25))) : X G Y_X11_put d k n 27 [vA 0, vI x1, vI x2, vI x3, vU, vU] [] M Q := by
  have hd1 : 1 ≤ d := by omega
  refine x_aload_n (dA D_X11_put 15 rfl) rfl ?_
  refine x_get (v := vA 1) (dA D_X11_put 16 rfl) fw_RX11_12 (sO_0 hS) (congrArg (rfV G) (sR_0_0 hS)) ?_
  refine x_iload_n (dA D_X11_put 17 rfl) rfl ?_
  obtain ⟨h1, h⟩ := h
  obtain ⟨h2, h⟩ := h
  refine x_callV 3 [vI x1] [] (dA D_X11_put 18 rfl) cw_RX11_128 rfl rfl (Nat.le_of_ble_eq_true rfl) (by decide) rfl hd1 (zk k) (zk n) (sO_1 hS) (S_X4_hasScene hS h1 h2 (by omega) ?_) (kI (fun _ _ h => h))
  show X G Y_X11_put d k n 35 [vA 0, vI x1, vI x2, vI x3, vU, vU] [vI (if (0 ≤ x1) ∧ (x1 < (rd M 1 0)) then 1 else 0)] M Q
  refine x_if_neB (tgt := 45) (dA D_X11_put 19 rfl) (by decide) ⟨fun c => ?_, fun c => ?_⟩
  · have h := h.1 c
    refine x_iload_n (dA D_X11_put 24 rfl) rfl ?_
    obtain ⟨h4, h⟩ := h
    have hJ : X G Y_X11_put d k n 81 [vA 0, vI x1, vI x2, vI x3, vU, vU] [vA (if x2 ≠ 0 then (if x2 ≠ 1 then 4 else 3) else 2)] M Q := by
      refine x_nmA (fun v19 ev19 => ?_)
      have h := h v19 ev19
      refine x_astore (xs' := [vA 0, vI x1, vI x2, vI x3, vA v19, vU]) (dA D_X11_put 40 rfl) (by decide) rfl ?_
      refine x_aload (dA D_X11_put 41 rfl) rfl ?_
      refine x_iload_n (dA D_X11_put 42 rfl) rfl ?_
      obtain ⟨h20, h⟩ := h
      refine x_iald (dA D_X11_put 43 rfl) h20 ?_
      refine x_nmI (fun v21 ev21 => ?_)
      have h := h v21 ev21
      refine x_istore (xs' := [vA 0, vI x1, vI x2, vI x3, vA v19, vI v21]) (dA D_X11_put 44 rfl) (by decide) rfl ?_
      refine x_aload (dA D_X11_put 45 rfl) rfl ?_
      refine x_iload_n (dA D_X11_put 46 rfl) rfl ?_
      refine x_iload_n (dA D_X11_put 47 rfl) rfl ?_
      refine x_iast (dA D_X11_put 48 rfl) h20 ?_
      refine x_nmM (fun M22 eM22 => ?_)
      obtain ⟨hM22, h⟩ := h M22 eM22
      refine x_aload_n (dA D_X11_put 49 rfl) rfl ?_
      refine x_get (v := vA 39) (dA D_X11_put 50 rfl) fw_RX11_79 (sO_0 hM22) (congrArg (rfV G) (sR_0_12 hM22)) ?_
      refine x_callV 5 [] [] (dA D_X11_put 51 rfl) cw_RX11_115 rfl rfl (Nat.le_of_ble_eq_true rfl) (by decide) rfl hd1 (zk k) (zk n) (sO_39 hM22) h (kU (fun M23 h => ?_))
      obtain ⟨hM23, h⟩ := h
      refine x_aload_n (dA D_X11_put 52 rfl) rfl ?_
      refine x_iload (dA D_X11_put 53 rfl) rfl ?_
      refine x_callV 10 [vI v21] [] (dA D_X11_put 54 rfl) cw_RX11_118 rfl rfl (Nat.le_of_ble_eq_true rfl) (by decide) rfl hd1 (zk k) (zk n) (sO_0 hM23) (S_X11_accept hM23  (by omega) ?_) (kI (fun _ _ h => h))
      refine x_nmM (fun M24 eM24 => ?_)
      have hM24 : Sh M24 := eM24 ▸ (sW_0_7 hM23)
      have h := h M24 eM24 hM24
      show X G Y_X11_put d k n 107 [vA 0, vI x1, vI x2, vI x3, vA v19, vI v21] [vI v21] M24 Q
      exact x_ireturn (dA D_X11_put 55 rfl) rfl h
    refine x_if_neP (tgt := 59) (dA D_X11_put 25 rfl) (by decide) h4 ⟨fun c3 => ?_, fun c3 => ?_⟩
    · refine x_iload_n (dA D_X11_put 30 rfl) rfl ?_
      refine x_iconst (dA D_X11_put 31 rfl) ?_
      refine x_icmp_neP (tgt := 74) (dA D_X11_put 32 rfl) (by decide) h4 ⟨by decide, by decide⟩ ⟨fun c7 => ?_, fun c7 => ?_⟩
      · refine x_aload_n (dA D_X11_put 37 rfl) rfl ?_
        refine x_get (v := vA 1) (dA D_X11_put 38 rfl) fw_RX11_12 (sO_0 hS) (congrArg (rfV G) (sR_0_0 hS)) ?_
        refine x_get (v := vA 4) (dA D_X11_put 39 rfl) fw_RX11_138 (sO_1 hS) (congrArg (rfV G) (sR_1_3 hS)) ?_
        rw [if_pos c3, if_pos c7] at hJ
        exact hJ
      · refine x_aload_n (dA D_X11_put 33 rfl) rfl ?_
        refine x_get (v := vA 1) (dA D_X11_put 34 rfl) fw_RX11_12 (sO_0 hS) (congrArg (rfV G) (sR_0_0 hS)) ?_
        refine x_get (v := vA 3) (dA D_X11_put 35 rfl) fw_RX11_135 (sO_1 hS) (congrArg (rfV G) (sR_1_2 hS)) ?_
        refine x_goto (tgt := 81) (dA D_X11_put 36 rfl) (by decide) ?_
        rw [if_pos c3, if_neg (by first | omega | grind)] at hJ
        exact hJ
    · refine x_aload_n (dA D_X11_put 26 rfl) rfl ?_
      refine x_get (v := vA 1) (dA D_X11_put 27 rfl) fw_RX11_12 (sO_0 hS) (congrArg (rfV G) (sR_0_0 hS)) ?_
      refine x_get (v := vA 2) (dA D_X11_put 28 rfl) fw_RX11_132 (sO_1 hS) (congrArg (rfV G) (sR_1_1 hS)) ?_
      refine x_goto (tgt := 81) (dA D_X11_put 29 rfl) (by decide) ?_
      rw [if_neg (by first | omega | grind)] at hJ
      exact hJ
  · have h := h.2 c
    refine x_aload_n (dA D_X11_put 20 rfl) rfl ?_
    refine x_bipush (dA D_X11_put 21 rfl) (by decide) (by decide) ?_
    refine x_callV 10 [vI (-2)] [] (dA D_X11_put 22 rfl) cw_RX11_104 rfl rfl (Nat.le_of_ble_eq_true rfl) (by decide) rfl hd1 (zk k) (zk n) (sO_0 hS) (S_X11_refuse hS ⟨by decide, by decide, by decide, by decide⟩ (by omega) ?_) (kI (fun _ _ h => h))
    refine x_nmM (fun M25 eM25 => ?_)
    have hM25 : Sh M25 := eM25 ▸ (sRef hS)
    have h := h M25 eM25 hM25
    show X G Y_X11_put d k n 44 [vA 0, vI x1, vI x2, vI x3, vU, vU] [vI (-2 : Int)] M25 Q
    exact x_ireturn (dA D_X11_put 23 rfl) rfl h
set_option maxRecDepth 100000 in
theorem B_X11_sort_0 {G : GG} {d : Nat} {k n : Nat} {x1 x2 x3 : Int} {M : MM} {Q : PV → MM → Prop} (hd : 2 ≤ d) (hS : Sh M) (h : inR x2 ∧ ∀ v6, v6 = (if x2 ≠ 1 then 5 else 9) → inR x1 ∧ ((¬ ((x1 = 0) ∨ (x1 = 1)) → ∀ M8, M8 = refM M (-1 : Int) → Sh M8 → Q (vI (-1 : Int)) M8) ∧ ((x1 = 0) ∨ (x1 = 1) → ((x2 < 0 → ∀ M9, M9 = refM M (-1 : Int) → Sh M9 → Q (vI (-1 : Int)) M9) ∧ (0 ≤ x2 → ((2 < x2 → ∀ M10, M10 = refM M (-1 : Int) → Sh M10 → Q (vI (-1 : Int)) M10) ∧ (x2 ≤ 2 → inR x3 ∧ ((x3 < 0 → ∀ M12, M12 = refM M (-1 : Int) → Sh M12 → Q (vI (-1 : Int)) M12) ∧ (0 ≤ x3 → inR v6 ∧ ((x3 ≤ v6 → ∀ v29, v29 = (if x2 ≠ 0 then (if x2 ≠ 1 then 7 else 6) else 5) → okA M v29 20 x1 ∧ ∀ v31, v31 = rd M v29 x1 → ∀ M32, M32 = wr M v29 x1 x3 → Sh M32 ∧ C G Y_X6_valuesChanged (d - 1) 0 0 [vA 39] M32 (rU (fun M33 => Sh M33 ∧ ∀ M34, M34 = accM M33 → Sh M34 → Q (vI v31) M34))) ∧ (v6 < x3 → ∀ M35, M35 = refM M (-1 : Int) → Sh M35 → Q (vI (-1 : Int)) M35))))))))))) : X G Y_X11_sort d k n 0 [vA 0, vI x1, vI x2, vI x3, vU, vU, vU] [] M Q := by
  have hd1 : 1 ≤ d := by omega
  refine x_iload_n (dA D_X11_sort 0 rfl) rfl ?_
  refine x_iconst (dA D_X11_sort 1 rfl) ?_
  obtain ⟨h2, h⟩ := h
  have hJ : X G Y_X11_sort d k n 11 [vA 0, vI x1, vI x2, vI x3, vU, vU, vU] [vI (if x2 ≠ 1 then 5 else 9)] M Q := by
    refine x_nmI (fun v6 ev6 => ?_)
    have h := h v6 ev6
    refine x_istore (xs' := [vA 0, vI x1, vI x2, vI x3, vI v6, vU, vU]) (dA D_X11_sort 6 rfl) (by decide) rfl ?_
    refine x_iload_n (dA D_X11_sort 7 rfl) rfl ?_
    obtain ⟨h7, h⟩ := h
    refine x_callS [vI x1] [] (dA D_X11_sort 8 rfl) cw_RX11_141 rfl rfl (Nat.le_of_ble_eq_true rfl) hd1 (zk k) (zk n) (S_X11_isSort h7 (by omega) ?_) (kI (fun _ _ h => h))
    show X G Y_X11_sort d k n 17 [vA 0, vI x1, vI x2, vI x3, vI v6, vU, vU] [vI (if (x1 = 0) ∨ (x1 = 1) then 1 else 0)] M Q
    refine x_if_eqB (tgt := 39) (dA D_X11_sort 9 rfl) (by decide) ⟨fun c => ?_, fun c => ?_⟩
    · have h := h.1 c
      refine x_aload_n (dA D_X11_sort 20 rfl) rfl ?_
      refine x_iconst (dA D_X11_sort 21 rfl) ?_
      refine x_callV 10 [vI (-1)] [] (dA D_X11_sort 22 rfl) cw_RX11_104 rfl rfl (Nat.le_of_ble_eq_true rfl) (by decide) rfl hd1 (zk k) (zk n) (sO_0 hS) (S_X11_refuse hS ⟨by decide, by decide, by decide, by decide⟩ (by omega) ?_) (kI (fun _ _ h => h))
      refine x_nmM (fun M8 eM8 => ?_)
      have hM8 : Sh M8 := eM8 ▸ (sRef hS)
      have h := h M8 eM8 hM8
      show X G Y_X11_sort d k n 44 [vA 0, vI x1, vI x2, vI x3, vI v6, vU, vU] [vI (-1 : Int)] M8 Q
      exact x_ireturn (dA D_X11_sort 23 rfl) rfl h
    · have h := h.2 c
      refine x_iload_n (dA D_X11_sort 10 rfl) rfl ?_
      refine x_if_ltP (tgt := 39) (dA D_X11_sort 11 rfl) (by decide) h2 ⟨fun c => ?_, fun c => ?_⟩
      · have h := h.1 c
        refine x_aload_n (dA D_X11_sort 20 rfl) rfl ?_
        refine x_iconst (dA D_X11_sort 21 rfl) ?_
        refine x_callV 10 [vI (-1)] [] (dA D_X11_sort 22 rfl) cw_RX11_104 rfl rfl (Nat.le_of_ble_eq_true rfl) (by decide) rfl hd1 (zk k) (zk n) (sO_0 hS) (S_X11_refuse hS ⟨by decide, by decide, by decide, by decide⟩ (by omega) ?_) (kI (fun _ _ h => h))
        refine x_nmM (fun M9 eM9 => ?_)
        have hM9 : Sh M9 := eM9 ▸ (sRef hS)
        have h := h M9 eM9 hM9
        show X G Y_X11_sort d k n 44 [vA 0, vI x1, vI x2, vI x3, vI v6, vU, vU] [vI (-1 : Int)] M9 Q
        exact x_ireturn (dA D_X11_sort 23 rfl) rfl h
      · have h := h.2 c
        refine x_iload_n (dA D_X11_sort 12 rfl) rfl ?_
        refine x_iconst (dA D_X11_sort 13 rfl) ?_
        refine x_icmp_gtP (tgt := 39) (dA D_X11_sort 14 rfl) (by decide) h2 ⟨by decide, by decide⟩ ⟨fun c => ?_, fun c => ?_⟩
        · have h := h.1 c
          refine x_aload_n (dA D_X11_sort 20 rfl) rfl ?_
          refine x_iconst (dA D_X11_sort 21 rfl) ?_
          refine x_callV 10 [vI (-1)] [] (dA D_X11_sort 22 rfl) cw_RX11_104 rfl rfl (Nat.le_of_ble_eq_true rfl) (by decide) rfl hd1 (zk k) (zk n) (sO_0 hS) (S_X11_refuse hS ⟨by decide, by decide, by decide, by decide⟩ (by omega) ?_) (kI (fun _ _ h => h))
          refine x_nmM (fun M10 eM10 => ?_)
          have hM10 : Sh M10 := eM10 ▸ (sRef hS)
          have h := h M10 eM10 hM10
          show X G Y_X11_sort d k n 44 [vA 0, vI x1, vI x2, vI x3, vI v6, vU, vU] [vI (-1 : Int)] M10 Q
          exact x_ireturn (dA D_X11_sort 23 rfl) rfl h
        · have h := h.2 c
          refine x_iload_n (dA D_X11_sort 15 rfl) rfl ?_
          obtain ⟨h11, h⟩ := h
          refine x_if_ltP (tgt := 39) (dA D_X11_sort 16 rfl) (by decide) h11 ⟨fun c => ?_, fun c => ?_⟩
          · have h := h.1 c
            refine x_aload_n (dA D_X11_sort 20 rfl) rfl ?_
            refine x_iconst (dA D_X11_sort 21 rfl) ?_
            refine x_callV 10 [vI (-1)] [] (dA D_X11_sort 22 rfl) cw_RX11_104 rfl rfl (Nat.le_of_ble_eq_true rfl) (by decide) rfl hd1 (zk k) (zk n) (sO_0 hS) (S_X11_refuse hS ⟨by decide, by decide, by decide, by decide⟩ (by omega) ?_) (kI (fun _ _ h => h))
            refine x_nmM (fun M12 eM12 => ?_)
            have hM12 : Sh M12 := eM12 ▸ (sRef hS)
            have h := h M12 eM12 hM12
            show X G Y_X11_sort d k n 44 [vA 0, vI x1, vI x2, vI x3, vI v6, vU, vU] [vI (-1 : Int)] M12 Q
            exact x_ireturn (dA D_X11_sort 23 rfl) rfl h
          · have h := h.2 c
            refine x_iload_n (dA D_X11_sort 17 rfl) rfl ?_
            refine x_iload (dA D_X11_sort 18 rfl) rfl ?_
            obtain ⟨h13, h⟩ := h
            refine x_icmp_leP (tgt := 45) (dA D_X11_sort 19 rfl) (by decide) h11 h13 ⟨fun c => ?_, fun c => ?_⟩
            · have h := h.1 c
              refine x_iload_n (dA D_X11_sort 24 rfl) rfl ?_
              have hJ : X G Y_X11_sort d k n 81 [vA 0, vI x1, vI x2, vI x3, vI v6, vU, vU] [vA (if x2 ≠ 0 then (if x2 ≠ 1 then 7 else 6) else 5)] M Q := by
                refine x_nmA (fun v29 ev29 => ?_)
                have h := h v29 ev29
                refine x_astore (xs' := [vA 0, vI x1, vI x2, vI x3, vI v6, vA v29, vU]) (dA D_X11_sort 40 rfl) (by decide) rfl ?_
                refine x_aload (dA D_X11_sort 41 rfl) rfl ?_
                refine x_iload_n (dA D_X11_sort 42 rfl) rfl ?_
                obtain ⟨h30, h⟩ := h
                refine x_iald (dA D_X11_sort 43 rfl) h30 ?_
                refine x_nmI (fun v31 ev31 => ?_)
                have h := h v31 ev31
                refine x_istore (xs' := [vA 0, vI x1, vI x2, vI x3, vI v6, vA v29, vI v31]) (dA D_X11_sort 44 rfl) (by decide) rfl ?_
                refine x_aload (dA D_X11_sort 45 rfl) rfl ?_
                refine x_iload_n (dA D_X11_sort 46 rfl) rfl ?_
                refine x_iload_n (dA D_X11_sort 47 rfl) rfl ?_
                refine x_iast (dA D_X11_sort 48 rfl) h30 ?_
                refine x_nmM (fun M32 eM32 => ?_)
                obtain ⟨hM32, h⟩ := h M32 eM32
                refine x_aload_n (dA D_X11_sort 49 rfl) rfl ?_
                refine x_get (v := vA 39) (dA D_X11_sort 50 rfl) fw_RX11_79 (sO_0 hM32) (congrArg (rfV G) (sR_0_12 hM32)) ?_
                refine x_callV 5 [] [] (dA D_X11_sort 51 rfl) cw_RX11_153 rfl rfl (Nat.le_of_ble_eq_true rfl) (by decide) rfl hd1 (zk k) (zk n) (sO_39 hM32) h (kU (fun M33 h => ?_))
                obtain ⟨hM33, h⟩ := h
                refine x_aload_n (dA D_X11_sort 52 rfl) rfl ?_
                refine x_iload (dA D_X11_sort 53 rfl) rfl ?_
                refine x_callV 10 [vI v31] [] (dA D_X11_sort 54 rfl) cw_RX11_118 rfl rfl (Nat.le_of_ble_eq_true rfl) (by decide) rfl hd1 (zk k) (zk n) (sO_0 hM33) (S_X11_accept hM33  (by omega) ?_) (kI (fun _ _ h => h))
                refine x_nmM (fun M34 eM34 => ?_)
                have hM34 : Sh M34 := eM34 ▸ (sW_0_7 hM33)
                have h := h M34 eM34 hM34
                show X G Y_X11_sort d k n 107 [vA 0, vI x1, vI x2, vI x3, vI v6, vA v29, vI v31] [vI v31] M34 Q
                exact x_ireturn (dA D_X11_sort 55 rfl) rfl h
              refine x_if_neP (tgt := 59) (dA D_X11_sort 25 rfl) (by decide) h2 ⟨fun c14 => ?_, fun c14 => ?_⟩
              · refine x_iload_n (dA D_X11_sort 30 rfl) rfl ?_
                refine x_iconst (dA D_X11_sort 31 rfl) ?_
                refine x_icmp_neP (tgt := 74) (dA D_X11_sort 32 rfl) (by decide) h2 ⟨by decide, by decide⟩ ⟨fun c17 => ?_, fun c17 => ?_⟩
                · refine x_aload_n (dA D_X11_sort 37 rfl) rfl ?_
                  refine x_get (v := vA 1) (dA D_X11_sort 38 rfl) fw_RX11_12 (sO_0 hS) (congrArg (rfV G) (sR_0_0 hS)) ?_
                  refine x_get (v := vA 7) (dA D_X11_sort 39 rfl) fw_RX11_150 (sO_1 hS) (congrArg (rfV G) (sR_1_6 hS)) ?_
                  rw [if_pos c14, if_pos c17] at hJ
                  exact hJ
                · refine x_aload_n (dA D_X11_sort 33 rfl) rfl ?_
                  refine x_get (v := vA 1) (dA D_X11_sort 34 rfl) fw_RX11_12 (sO_0 hS) (congrArg (rfV G) (sR_0_0 hS)) ?_
                  refine x_get (v := vA 6) (dA D_X11_sort 35 rfl) fw_RX11_147 (sO_1 hS) (congrArg (rfV G) (sR_1_5 hS)) ?_
                  refine x_goto (tgt := 81) (dA D_X11_sort 36 rfl) (by decide) ?_
                  rw [if_pos c14, if_neg (by first | omega | grind)] at hJ
                  exact hJ
              · refine x_aload_n (dA D_X11_sort 26 rfl) rfl ?_
                refine x_get (v := vA 1) (dA D_X11_sort 27 rfl) fw_RX11_12 (sO_0 hS) (congrArg (rfV G) (sR_0_0 hS)) ?_
                refine x_get (v := vA 5) (dA D_X11_sort 28 rfl) fw_RX11_144 (sO_1 hS) (congrArg (rfV G) (sR_1_4 hS)) ?_
                refine x_goto (tgt := 81) (dA D_X11_sort 29 rfl) (by decide) ?_
                rw [if_neg (by first | omega | grind)] at hJ
                exact hJ
            · have h := h.2 c
              refine x_aload_n (dA D_X11_sort 20 rfl) rfl ?_
              refine x_iconst (dA D_X11_sort 21 rfl) ?_
              refine x_callV 10 [vI (-1)] [] (dA D_X11_sort 22 rfl) cw_RX11_104 rfl rfl (Nat.le_of_ble_eq_true rfl) (by decide) rfl hd1 (zk k) (zk n) (sO_0 hS) (S_X11_refuse hS ⟨by decide, by decide, by decide, by decide⟩ (by omega) ?_) (kI (fun _ _ h => h))
              refine x_nmM (fun M35 eM35 => ?_)
              have hM35 : Sh M35 := eM35 ▸ (sRef hS)
              have h := h M35 eM35 hM35
              show X G Y_X11_sort d k n 44 [vA 0, vI x1, vI x2, vI x3, vI v6, vU, vU] [vI (-1 : Int)] M35 Q
              exact x_ireturn (dA D_X11_sort 23 rfl) rfl h
  refine x_icmp_neP (tgt := 10) (dA D_X11_sort 2 rfl) (by decide) h2 ⟨by decide, by decide⟩ ⟨fun c1 => ?_, fun c1 => ?_⟩
  · refine x_iconst (dA D_X11_sort 5 rfl) ?_
    rw [if_pos c1] at hJ
    exact hJ
  · refine x_bipush (dA D_X11_sort 3 rfl) (by decide) (by decide) ?_
    refine x_goto (tgt := 11) (dA D_X11_sort 4 rfl) (by decide) ?_
    rw [if_neg (by first | omega | grind)] at hJ
    exact hJ
theorem C_X11_sort {G : GG} {d : Nat} {x1 x2 x3 : Int} {M : MM} {Q : PV → MM → Prop} (h : X G Y_X11_sort d 0 0 0 [vA 0, vI x1, vI x2, vI x3, vU, vU, vU] [] M Q) : C G Y_X11_sort d 0 0 [vA 0, vI x1, vI x2, vI x3] M Q := X.entry (by decide) (Nat.le_of_ble_eq_true rfl) rfl rfl rfl h
set_option maxRecDepth 100000 in
theorem B_X11_row_0 {G : GG} {d : Nat} {k n : Nat} {M : MM} {Q : PV → MM → Prop} (hd : 2 ≤ d) (hS : Sh M) (h : inR (rd M 0 3) ∧ (((rd M 0 3) ≠ 0 → ∀ v2, v2 = rd M 1 0 → X G Y_X11_row d k n 26 [vA 0, vI v2, vI 0, vI 0, vU] [] M Q) ∧ ((rd M 0 3) = 0 → ∀ M3, M3 = refM M (-6 : Int) → Sh M3 → Q (vI (-6 : Int)) M3))) : X G Y_X11_row d k n 0 [vA 0, vU, vU, vU, vU] [] M Q := by
  have hd1 : 1 ≤ d := by omega
  refine x_aload_n (dA D_X11_row 0 rfl) rfl ?_
  refine x_get (v := vI (rd M 0 3)) (dA D_X11_row 1 rfl) fw_RX11_24 (sO_0 hS) rfl ?_
  obtain ⟨h1, h⟩ := h
  refine x_if_neP (tgt := 14) (dA D_X11_row 2 rfl) (by decide) h1 ⟨fun c => ?_, fun c => ?_⟩
  · have h := h.1 c
    refine x_aload_n (dA D_X11_row 7 rfl) rfl ?_
    refine x_get (v := vA 1) (dA D_X11_row 8 rfl) fw_RX11_12 (sO_0 hS) (congrArg (rfV G) (sR_0_0 hS)) ?_
    refine x_get (v := vI (rd M 1 0)) (dA D_X11_row 9 rfl) fw_RX11_108 (sO_1 hS) rfl ?_
    refine x_nmI (fun v2 ev2 => ?_)
    have h := h v2 ev2
    refine x_istore_n (xs' := [vA 0, vI v2, vU, vU, vU]) (dA D_X11_row 10 rfl) (by decide) rfl ?_
    refine x_iconst (dA D_X11_row 11 rfl) ?_
    refine x_istore_n (xs' := [vA 0, vI v2, vI 0, vU, vU]) (dA D_X11_row 12 rfl) (by decide) rfl ?_
    refine x_iconst (dA D_X11_row 13 rfl) ?_
    refine x_istore_n (xs' := [vA 0, vI v2, vI 0, vI 0, vU]) (dA D_X11_row 14 rfl) (by decide) rfl ?_
    exact h
  · have h := h.2 c
    refine x_aload_n (dA D_X11_row 3 rfl) rfl ?_
    refine x_bipush (dA D_X11_row 4 rfl) (by decide) (by decide) ?_
    refine x_callV 10 [vI (-6)] [] (dA D_X11_row 5 rfl) cw_RX11_104 rfl rfl (Nat.le_of_ble_eq_true rfl) (by decide) rfl hd1 (zk k) (zk n) (sO_0 hS) (S_X11_refuse hS ⟨by decide, by decide, by decide, by decide⟩ (by omega) ?_) (kI (fun _ _ h => h))
    refine x_nmM (fun M3 eM3 => ?_)
    have hM3 : Sh M3 := eM3 ▸ (sRef hS)
    have h := h M3 eM3 hM3
    show X G Y_X11_row d k n 13 [vA 0, vU, vU, vU, vU] [vI (-6 : Int)] M3 Q
    exact x_ireturn (dA D_X11_row 6 rfl) rfl h
theorem C_X11_row {G : GG} {d : Nat} {M : MM} {Q : PV → MM → Prop} (h : X G Y_X11_row d 0 0 0 [vA 0, vU, vU, vU, vU] [] M Q) : C G Y_X11_row d 0 0 [vA 0] M Q := X.entry (by decide) (Nat.le_of_ble_eq_true rfl) rfl rfl rfl h
set_option maxRecDepth 100000 in
theorem B_X11_row_26 {G : GG} {d : Nat} {k n : Nat} {x1 x2 x3 : Int} {r : Int → Int} {M : MM} {Q : PV → MM → Prop} (hd : 3 ≤ d) (hS : Sh M) (h : inR x3 ∧ inR (rd M 0 3) ∧ (((rd M 0 3) ≤ x3 → ∀ M3, M3 = wr M 0 3 0 → Sh M3 → ∀ v4, v4 = (rd M3 1 0) - x1 → ∀ M5, M5 = wr M3 0 4 (x2 - v4) → Sh M5 → C G Y_X6_lawsChanged (d - 1) 0 0 [vA 39] M5 (rU (fun M6 => Sh M6 ∧ ∀ M7, M7 = accM M6 → Sh M7 → Q (vI v4) M7))) ∧ (x3 < (rd M 0 3) → inR (x3 + 2) ∧ inR (rd M 1 0) ∧ (((((rd M 0 3) ≤ (x3 + 2)) ∨ (5 ≤ (rd M 1 0))) → X G Y_X11_row d k n 62 [vA 0, vI x1, vI (x2 + 1), vI x3, vU] [] M Q) ∧ (¬ (((rd M 0 3) ≤ (x3 + 2)) ∨ (5 ≤ (rd M 1 0))) → 0 ≤ x3 ∧ x3 < 400 ∧ 0 ≤ (x3 + 1) ∧ (x3 + 1) < 400 ∧ 0 ≤ (x3 + 2) ∧ (x3 + 2) < 400 ∧ HR M r ∧ RS r ∧ inR (rd M 14 x3) ∧ inR (rd M 14 (x3 + 1)) ∧ inR (rd M 14 (x3 + 2)) ∧ ((¬ (coBe (r 0) (rd M 14 x3) (rd M 14 (x3 + 1)) (rd M 14 (x3 + 2))) → X G Y_X11_row d k n 26 [vA 0, vI x1, vI (x2 + 1), vI (x3 + 3), vU] [] M Q) ∧ (coBe (r 0) (rd M 14 x3) (rd M 14 (x3 + 1)) (rd M 14 (x3 + 2)) → C G Y_X4_addScene (d - 1) 0 0 [vA 1, vI (rd M 14 x3), vI (rd M 14 (x3 + 1)), vI (rd M 14 (x3 + 2))] M (rU (fun M29 => Sh M29 ∧ X G Y_X11_row d k n 26 [vA 0, vI x1, vI (x2 + 1), vI (x3 + 3), vU] [] M29 Q))))))))) : X G Y_X11_row d k n 26 [vA 0, vI x1, vI x2, vI x3, vU] [] M Q := by
  have hd1 : 1 ≤ d := by omega
  refine x_iload_n (dA D_X11_row 15 rfl) rfl ?_
  refine x_aload_n (dA D_X11_row 16 rfl) rfl ?_
  refine x_get (v := vI (rd M 0 3)) (dA D_X11_row 17 rfl) fw_RX11_24 (sO_0 hS) rfl ?_
  obtain ⟨h1, h⟩ := h
  obtain ⟨h2, h⟩ := h
  refine x_icmp_geP (tgt := 137) (dA D_X11_row 18 rfl) (by decide) h1 h2 ⟨fun c => ?_, fun c => ?_⟩
  · have h := h.1 c
    refine x_aload_n (dA D_X11_row 78 rfl) rfl ?_
    refine x_iconst (dA D_X11_row 79 rfl) ?_
    refine x_put (x := 0) (dA D_X11_row 80 rfl) fw_RX11_24 (fun _ _ hc => by cases hc; exact Or.inl rfl) (sO_0 hS) rfl rfl rfl ?_
    refine x_nmM (fun M3 eM3 => ?_)
    have hM3 : Sh M3 := eM3 ▸ (sW_0_3 hS)
    have h := h M3 eM3 hM3
    refine x_aload_n (dA D_X11_row 81 rfl) rfl ?_
    refine x_get (v := vA 1) (dA D_X11_row 82 rfl) fw_RX11_12 (sO_0 hM3) (congrArg (rfV G) (sR_0_0 hM3)) ?_
    refine x_get (v := vI (rd M3 1 0)) (dA D_X11_row 83 rfl) fw_RX11_108 (sO_1 hM3) rfl ?_
    refine x_iload_n (dA D_X11_row 84 rfl) rfl ?_
    refine x_isub (dA D_X11_row 85 rfl) ?_
    refine x_nmI (fun v4 ev4 => ?_)
    have h := h v4 ev4
    refine x_istore_n (xs' := [vA 0, vI x1, vI x2, vI v4, vU]) (dA D_X11_row 86 rfl) (by decide) rfl ?_
    refine x_aload_n (dA D_X11_row 87 rfl) rfl ?_
    refine x_iload_n (dA D_X11_row 88 rfl) rfl ?_
    refine x_iload_n (dA D_X11_row 89 rfl) rfl ?_
    refine x_isub (dA D_X11_row 90 rfl) ?_
    refine x_put (x := x2 - v4) (dA D_X11_row 91 rfl) fw_RX11_28 (fun _ _ hc => by cases hc; exact Or.inl rfl) (sO_0 hM3) rfl rfl rfl ?_
    refine x_nmM (fun M5 eM5 => ?_)
    have hM5 : Sh M5 := eM5 ▸ (sW_0_4 hM3)
    have h := h M5 eM5 hM5
    refine x_aload_n (dA D_X11_row 92 rfl) rfl ?_
    refine x_get (v := vA 39) (dA D_X11_row 93 rfl) fw_RX11_79 (sO_0 hM5) (congrArg (rfV G) (sR_0_12 hM5)) ?_
    refine x_callV 5 [] [] (dA D_X11_row 94 rfl) cw_RX11_115 rfl rfl (Nat.le_of_ble_eq_true rfl) (by decide) rfl hd1 (zk k) (zk n) (sO_39 hM5) h (kU (fun M6 h => ?_))
    obtain ⟨hM6, h⟩ := h
    refine x_aload_n (dA D_X11_row 95 rfl) rfl ?_
    refine x_iload_n (dA D_X11_row 96 rfl) rfl ?_
    refine x_callV 10 [vI v4] [] (dA D_X11_row 97 rfl) cw_RX11_118 rfl rfl (Nat.le_of_ble_eq_true rfl) (by decide) rfl hd1 (zk k) (zk n) (sO_0 hM6) (S_X11_accept hM6  (by omega) ?_) (kI (fun _ _ h => h))
    refine x_nmM (fun M7 eM7 => ?_)
    have hM7 : Sh M7 := eM7 ▸ (sW_0_7 hM6)
    have h := h M7 eM7 hM7
    show X G Y_X11_row d k n 171 [vA 0, vI x1, vI x2, vI v4, vU] [vI v4] M7 Q
    exact x_ireturn (dA D_X11_row 98 rfl) rfl h
  · have h := h.2 c
    refine x_iinc (xs' := [vA 0, vI x1, vI (x2 + 1), vI x3, vU]) (dA D_X11_row 19 rfl) rfl (by decide) rfl ?_
    refine x_iload_n (dA D_X11_row 20 rfl) rfl ?_
    refine x_iconst (dA D_X11_row 21 rfl) ?_
    refine x_iadd (dA D_X11_row 22 rfl) ?_
    refine x_aload_n (dA D_X11_row 23 rfl) rfl ?_
    refine x_get (v := vI (rd M 0 3)) (dA D_X11_row 24 rfl) fw_RX11_24 (sO_0 hS) rfl ?_
    obtain ⟨h9, h⟩ := h
    obtain ⟨h15, h⟩ := h
    have hA : (((rd M 0 3) ≤ (x3 + 2)) ∨ (5 ≤ (rd M 1 0))) → X G Y_X11_row d k n 62 [vA 0, vI x1, vI (x2 + 1), vI x3, vU] [] M Q := by
      intro c30
      have h := h.1 c30
      exact h
    have hB : ¬ (((rd M 0 3) ≤ (x3 + 2)) ∨ (5 ≤ (rd M 1 0))) → X G Y_X11_row d k n 63 [vA 0, vI x1, vI (x2 + 1), vI x3, vU] [vI 1] M Q := by
      intro c30
      have h := h.2 c30
      refine x_istore (xs' := [vA 0, vI x1, vI (x2 + 1), vI x3, vI 1]) (dA D_X11_row 34 rfl) (by decide) rfl ?_
      refine x_iload (dA D_X11_row 35 rfl) rfl ?_
      refine x_if_eqP (tgt := 131) (dA D_X11_row 36 rfl) (by decide) ⟨by decide, by decide⟩ ⟨fun c => ?_, fun c => ?_⟩
      · exact absurd c (by decide)
      · skip
        refine x_aload_n (dA D_X11_row 37 rfl) rfl ?_
        refine x_get (v := vA 1) (dA D_X11_row 38 rfl) fw_RX11_12 (sO_0 hS) (congrArg (rfV G) (sR_0_0 hS)) ?_
        refine x_aload_n (dA D_X11_row 39 rfl) rfl ?_
        refine x_get (v := vA 14) (dA D_X11_row 40 rfl) fw_RX11_20 (sO_0 hS) (congrArg (rfV G) (sR_0_2 hS)) ?_
        refine x_iload_n (dA D_X11_row 41 rfl) rfl ?_
        obtain ⟨h18, h⟩ := h
        obtain ⟨h19, h⟩ := h
        refine x_iald (dA D_X11_row 42 rfl) (sA_14 hS h18 h19) ?_
        refine x_aload_n (dA D_X11_row 43 rfl) rfl ?_
        refine x_get (v := vA 14) (dA D_X11_row 44 rfl) fw_RX11_20 (sO_0 hS) (congrArg (rfV G) (sR_0_2 hS)) ?_
        refine x_iload_n (dA D_X11_row 45 rfl) rfl ?_
        refine x_iconst (dA D_X11_row 46 rfl) ?_
        refine x_iadd (dA D_X11_row 47 rfl) ?_
        obtain ⟨h20, h⟩ := h
        obtain ⟨h21, h⟩ := h
        refine x_iald (dA D_X11_row 48 rfl) (sA_14 hS h20 h21) ?_
        refine x_aload_n (dA D_X11_row 49 rfl) rfl ?_
        refine x_get (v := vA 14) (dA D_X11_row 50 rfl) fw_RX11_20 (sO_0 hS) (congrArg (rfV G) (sR_0_2 hS)) ?_
        refine x_iload_n (dA D_X11_row 51 rfl) rfl ?_
        refine x_iconst (dA D_X11_row 52 rfl) ?_
        refine x_iadd (dA D_X11_row 53 rfl) ?_
        obtain ⟨h22, h⟩ := h
        obtain ⟨h23, h⟩ := h
        refine x_iald (dA D_X11_row 54 rfl) (sA_14 hS h22 h23) ?_
        obtain ⟨h24, h⟩ := h
        obtain ⟨h25, h⟩ := h
        obtain ⟨h26, h⟩ := h
        obtain ⟨h27, h⟩ := h
        obtain ⟨h28, h⟩ := h
        refine x_callV 3 [vI (rd M 14 x3), vI (rd M 14 (x3 + 1)), vI (rd M 14 (x3 + 2))] [] (dA D_X11_row 55 rfl) cw_RX11_100 rfl rfl (Nat.le_of_ble_eq_true rfl) (by decide) rfl hd1 (zk k) (zk n) (sO_1 hS) (S_X4_couldBe hS h24 h25 h26 h27 h28 (by omega) ?_) (kI (fun _ _ h => h))
        show X G Y_X11_row d k n 99 [vA 0, vI x1, vI (x2 + 1), vI x3, vI 1] [vI (if coBe (r 0) (rd M 14 x3) (rd M 14 (x3 + 1)) (rd M 14 (x3 + 2)) then 1 else 0)] M Q
        refine x_if_eqB (tgt := 131) (dA D_X11_row 56 rfl) (by decide) ⟨fun c => ?_, fun c => ?_⟩
        · have h := h.1 c
          refine x_iinc (xs' := [vA 0, vI x1, vI (x2 + 1), vI (x3 + 3), vI 1]) (dA D_X11_row 76 rfl) rfl (by decide) rfl ?_
          refine x_goto (tgt := 26) (dA D_X11_row 77 rfl) (by decide) ?_
          refine X.weak (xs' := [vA 0, vI x1, vI (x2 + 1), vI (x3 + 3), vU]) ⟨Or.inl rfl, Or.inl rfl, Or.inl rfl, Or.inl rfl, Or.inr rfl, trivial⟩ ?_
          exact h
        · have h := h.2 c
          refine x_aload_n (dA D_X11_row 57 rfl) rfl ?_
          refine x_get (v := vA 1) (dA D_X11_row 58 rfl) fw_RX11_12 (sO_0 hS) (congrArg (rfV G) (sR_0_0 hS)) ?_
          refine x_aload_n (dA D_X11_row 59 rfl) rfl ?_
          refine x_get (v := vA 14) (dA D_X11_row 60 rfl) fw_RX11_20 (sO_0 hS) (congrArg (rfV G) (sR_0_2 hS)) ?_
          refine x_iload_n (dA D_X11_row 61 rfl) rfl ?_
          refine x_iald (dA D_X11_row 62 rfl) (sA_14 hS h18 h19) ?_
          refine x_aload_n (dA D_X11_row 63 rfl) rfl ?_
          refine x_get (v := vA 14) (dA D_X11_row 64 rfl) fw_RX11_20 (sO_0 hS) (congrArg (rfV G) (sR_0_2 hS)) ?_
          refine x_iload_n (dA D_X11_row 65 rfl) rfl ?_
          refine x_iconst (dA D_X11_row 66 rfl) ?_
          refine x_iadd (dA D_X11_row 67 rfl) ?_
          refine x_iald (dA D_X11_row 68 rfl) (sA_14 hS h20 h21) ?_
          refine x_aload_n (dA D_X11_row 69 rfl) rfl ?_
          refine x_get (v := vA 14) (dA D_X11_row 70 rfl) fw_RX11_20 (sO_0 hS) (congrArg (rfV G) (sR_0_2 hS)) ?_
          refine x_iload_n (dA D_X11_row 71 rfl) rfl ?_
          refine x_iconst (dA D_X11_row 72 rfl) ?_
          refine x_iadd (dA D_X11_row 73 rfl) ?_
          refine x_iald (dA D_X11_row 74 rfl) (sA_14 hS h22 h23) ?_
          refine x_callV 3 [vI (rd M 14 x3), vI (rd M 14 (x3 + 1)), vI (rd M 14 (x3 + 2))] [] (dA D_X11_row 75 rfl) cw_RX11_111 rfl rfl (Nat.le_of_ble_eq_true rfl) (by decide) rfl hd1 (zk k) (zk n) (sO_1 hS) h (kU (fun M29 h => ?_))
          obtain ⟨hM29, h⟩ := h
          refine x_iinc (xs' := [vA 0, vI x1, vI (x2 + 1), vI (x3 + 3), vI 1]) (dA D_X11_row 76 rfl) rfl (by decide) rfl ?_
          refine x_goto (tgt := 26) (dA D_X11_row 77 rfl) (by decide) ?_
          refine X.weak (xs' := [vA 0, vI x1, vI (x2 + 1), vI (x3 + 3), vU]) ⟨Or.inl rfl, Or.inl rfl, Or.inl rfl, Or.inl rfl, Or.inr rfl, trivial⟩ ?_
          exact h
    refine x_icmp_geP (tgt := 62) (dA D_X11_row 25 rfl) (by decide) h9 h2 ⟨fun c8 => ?_, fun c8 => ?_⟩
    · exact hA (by first | omega | grind)
    · refine x_aload_n (dA D_X11_row 26 rfl) rfl ?_
      refine x_get (v := vA 1) (dA D_X11_row 27 rfl) fw_RX11_12 (sO_0 hS) (congrArg (rfV G) (sR_0_0 hS)) ?_
      refine x_get (v := vI (rd M 1 0)) (dA D_X11_row 28 rfl) fw_RX11_108 (sO_1 hS) rfl ?_
      refine x_iconst (dA D_X11_row 29 rfl) ?_
      refine x_icmp_geP (tgt := 62) (dA D_X11_row 30 rfl) (by decide) h15 ⟨by decide, by decide⟩ ⟨fun c14 => ?_, fun c14 => ?_⟩
      · exact hA (by first | omega | grind)
      · refine x_iconst (dA D_X11_row 31 rfl) ?_
        refine x_goto (tgt := 63) (dA D_X11_row 32 rfl) (by decide) ?_
        exact hB (by first | omega | grind)
set_option maxRecDepth 100000 in
theorem B_X11_row_62 {G : GG} {d : Nat} {k n : Nat} {x1 x2 x3 : Int} {M : MM} {Q : PV → MM → Prop} (hd : 1 ≤ d) (hS : Sh M) (h : X G Y_X11_row d k n 26 [vA 0, vI x1, vI x2, vI (x3 + 3), vU] [] M Q) : X G Y_X11_row d k n 62 [vA 0, vI x1, vI x2, vI x3, vU] [] M Q := by
  have hd1 : 1 ≤ d := by omega
  refine x_iconst (dA D_X11_row 33 rfl) ?_
  refine x_istore (xs' := [vA 0, vI x1, vI x2, vI x3, vI 0]) (dA D_X11_row 34 rfl) (by decide) rfl ?_
  refine x_iload (dA D_X11_row 35 rfl) rfl ?_
  refine x_if_eqP (tgt := 131) (dA D_X11_row 36 rfl) (by decide) ⟨by decide, by decide⟩ ⟨fun c => ?_, fun c => ?_⟩
  · skip
    refine x_iinc (xs' := [vA 0, vI x1, vI x2, vI (x3 + 3), vI 0]) (dA D_X11_row 76 rfl) rfl (by decide) rfl ?_
    refine x_goto (tgt := 26) (dA D_X11_row 77 rfl) (by decide) ?_
    refine X.weak (xs' := [vA 0, vI x1, vI x2, vI (x3 + 3), vU]) ⟨Or.inl rfl, Or.inl rfl, Or.inl rfl, Or.inl rfl, Or.inr rfl, trivial⟩ ?_
    exact h
  · exact absurd (by decide) c
set_option maxRecDepth 100000 in
theorem B_X11_force_0 {G : GG} {d : Nat} {k n : Nat} {x1 : Int} {M : MM} {Q : PV → MM → Prop} (hd : 2 ≤ d) (hS : Sh M) (h : inR x1 ∧ inR (rd M 1 9) ∧ ((((x1 < (-1)) ∨ ((rd M 1 9) ≤ x1)) → ∀ M13, M13 = refM M (-2 : Int) → Sh M13 → Q (vI (-2 : Int)) M13) ∧ (¬ ((x1 < (-1)) ∨ ((rd M 1 9) ≤ x1)) → ∀ v14, v14 = rd M 1 10 → ∀ M15, M15 = wr M 1 10 x1 → Sh M15 → C G Y_X6_lawsChanged (d - 1) 0 0 [vA 39] M15 (rU (fun M16 => Sh M16 ∧ ∀ M17, M17 = accM M16 → Sh M17 → Q (vI v14) M17))))) : X G Y_X11_force d k n 0 [vA 0, vI x1, vU] [] M Q := by
  have hd1 : 1 ≤ d := by omega
  refine x_iload_n (dA D_X11_force 0 rfl) rfl ?_
  refine x_iconst (dA D_X11_force 1 rfl) ?_
  obtain ⟨h2, h⟩ := h
  obtain ⟨h8, h⟩ := h
  have hA : ((x1 < (-1)) ∨ ((rd M 1 9) ≤ x1)) → X G Y_X11_force d k n 16 [vA 0, vI x1, vU] [] M Q := by
    intro c18
    have h := h.1 c18
    refine x_aload_n (dA D_X11_force 8 rfl) rfl ?_
    refine x_bipush (dA D_X11_force 9 rfl) (by decide) (by decide) ?_
    refine x_callV 10 [vI (-2)] [] (dA D_X11_force 10 rfl) cw_RX11_104 rfl rfl (Nat.le_of_ble_eq_true rfl) (by decide) rfl hd1 (zk k) (zk n) (sO_0 hS) (S_X11_refuse hS ⟨by decide, by decide, by decide, by decide⟩ (by omega) ?_) (kI (fun _ _ h => h))
    refine x_nmM (fun M13 eM13 => ?_)
    have hM13 : Sh M13 := eM13 ▸ (sRef hS)
    have h := h M13 eM13 hM13
    show X G Y_X11_force d k n 22 [vA 0, vI x1, vU] [vI (-2 : Int)] M13 Q
    exact x_ireturn (dA D_X11_force 11 rfl) rfl h
  have hB : ¬ ((x1 < (-1)) ∨ ((rd M 1 9) ≤ x1)) → X G Y_X11_force d k n 23 [vA 0, vI x1, vU] [] M Q := by
    intro c18
    have h := h.2 c18
    refine x_aload_n (dA D_X11_force 12 rfl) rfl ?_
    refine x_get (v := vA 1) (dA D_X11_force 13 rfl) fw_RX11_12 (sO_0 hS) (congrArg (rfV G) (sR_0_0 hS)) ?_
    refine x_get (v := vI (rd M 1 10)) (dA D_X11_force 14 rfl) fw_RX11_179 (sO_1 hS) rfl ?_
    refine x_nmI (fun v14 ev14 => ?_)
    have h := h v14 ev14
    refine x_istore_n (xs' := [vA 0, vI x1, vI v14]) (dA D_X11_force 15 rfl) (by decide) rfl ?_
    refine x_aload_n (dA D_X11_force 16 rfl) rfl ?_
    refine x_get (v := vA 1) (dA D_X11_force 17 rfl) fw_RX11_12 (sO_0 hS) (congrArg (rfV G) (sR_0_0 hS)) ?_
    refine x_iload_n (dA D_X11_force 18 rfl) rfl ?_
    refine x_put (x := x1) (dA D_X11_force 19 rfl) fw_RX11_179 (fun _ _ hc => by cases hc; exact Or.inl rfl) (sO_1 hS) rfl rfl rfl ?_
    refine x_nmM (fun M15 eM15 => ?_)
    have hM15 : Sh M15 := eM15 ▸ (sW_1_10 hS)
    have h := h M15 eM15 hM15
    refine x_aload_n (dA D_X11_force 20 rfl) rfl ?_
    refine x_get (v := vA 39) (dA D_X11_force 21 rfl) fw_RX11_79 (sO_0 hM15) (congrArg (rfV G) (sR_0_12 hM15)) ?_
    refine x_callV 5 [] [] (dA D_X11_force 22 rfl) cw_RX11_115 rfl rfl (Nat.le_of_ble_eq_true rfl) (by decide) rfl hd1 (zk k) (zk n) (sO_39 hM15) h (kU (fun M16 h => ?_))
    obtain ⟨hM16, h⟩ := h
    refine x_aload_n (dA D_X11_force 23 rfl) rfl ?_
    refine x_iload_n (dA D_X11_force 24 rfl) rfl ?_
    refine x_callV 10 [vI v14] [] (dA D_X11_force 25 rfl) cw_RX11_118 rfl rfl (Nat.le_of_ble_eq_true rfl) (by decide) rfl hd1 (zk k) (zk n) (sO_0 hM16) (S_X11_accept hM16  (by omega) ?_) (kI (fun _ _ h => h))
    refine x_nmM (fun M17 eM17 => ?_)
    have hM17 : Sh M17 := eM17 ▸ (sW_0_7 hM16)
    have h := h M17 eM17 hM17
    show X G Y_X11_force d k n 51 [vA 0, vI x1, vI v14] [vI v14] M17 Q
    exact x_ireturn (dA D_X11_force 26 rfl) rfl h
  refine x_icmp_ltP (tgt := 16) (dA D_X11_force 2 rfl) (by decide) h2 ⟨by decide, by decide⟩ ⟨fun c1 => ?_, fun c1 => ?_⟩
  · exact hA (by first | omega | grind)
  · refine x_iload_n (dA D_X11_force 3 rfl) rfl ?_
    refine x_aload_n (dA D_X11_force 4 rfl) rfl ?_
    refine x_get (v := vA 1) (dA D_X11_force 5 rfl) fw_RX11_12 (sO_0 hS) (congrArg (rfV G) (sR_0_0 hS)) ?_
    refine x_get (v := vI (rd M 1 9)) (dA D_X11_force 6 rfl) fw_RX11_163 (sO_1 hS) rfl ?_
    refine x_icmp_ltP (tgt := 23) (dA D_X11_force 7 rfl) (by decide) h2 h8 ⟨fun c7 => ?_, fun c7 => ?_⟩
    · exact hB (by first | omega | grind)
    · exact hA (by first | omega | grind)
theorem C_X11_force {G : GG} {d : Nat} {x1 : Int} {M : MM} {Q : PV → MM → Prop} (h : X G Y_X11_force d 0 0 0 [vA 0, vI x1, vU] [] M Q) : C G Y_X11_force d 0 0 [vA 0, vI x1] M Q := X.entry (by decide) (Nat.le_of_ble_eq_true rfl) rfl rfl rfl h
set_option maxRecDepth 100000 in
theorem B_X11_asks_0 {G : GG} {d : Nat} {k n : Nat} {x1 x2 x3 x4 x5 x6 x7 x8 : Int} {M : MM} {Q : PV → MM → Prop} (hd : 2 ≤ d) (hS : Sh M) (h : inR x1 ∧ ((((x1 < 0) ∨ (1 < x1)) → Q (vI (-1)) M) ∧ (¬ ((x1 < 0) ∨ (1 < x1)) → inR x2 ∧ ((¬ ((x2 = 0) ∨ (x2 = 1)) → Q (vI (-1)) M) ∧ ((x2 = 0) ∨ (x2 = 1) → inR x3 ∧ inR (rd M 1 0) ∧ (((0 ≤ x3) ∧ (x3 < (rd M 1 0)) → inR x4 ∧ ((x4 = (-1) → X G Y_X11_asks d k n 47 [vA 0, vI x1, vI x2, vI x3, vI x4, vI x5, vI x6, vI x7, vI x8] [] M Q) ∧ (x4 ≠ (-1) → ((¬ ((0 ≤ x4) ∧ (x4 < (rd M 1 0))) → Q (vI (-1)) M) ∧ ((0 ≤ x4) ∧ (x4 < (rd M 1 0)) → X G Y_X11_asks d k n 47 [vA 0, vI x1, vI x2, vI x3, vI x4, vI x5, vI x6, vI x7, vI x8] [] M Q))))) ∧ (¬ ((0 ≤ x3) ∧ (x3 < (rd M 1 0))) → Q (vI (-1)) M))))))) : X G Y_X11_asks d k n 0 [vA 0, vI x1, vI x2, vI x3, vI x4, vI x5, vI x6, vI x7, vI x8] [] M Q := by
  have hd1 : 1 ≤ d := by omega
  refine x_iload_n (dA D_X11_asks 0 rfl) rfl ?_
  obtain ⟨h2, h⟩ := h
  have hA : ((x1 < 0) ∨ (1 < x1)) → X G Y_X11_asks d k n 27 [vA 0, vI x1, vI x2, vI x3, vI x4, vI x5, vI x6, vI x7, vI x8] [] M Q := by
    intro c12
    have h := h.1 c12
    refine x_iconst (dA D_X11_asks 13 rfl) ?_
    exact x_ireturn (dA D_X11_asks 14 rfl) rfl h
  have hB : ¬ ((x1 < 0) ∨ (1 < x1)) → X G Y_X11_asks d k n 9 [vA 0, vI x1, vI x2, vI x3, vI x4, vI x5, vI x6, vI x7, vI x8] [] M Q := by
    intro c12
    have h := h.2 c12
    refine x_iload_n (dA D_X11_asks 5 rfl) rfl ?_
    obtain ⟨h8, h⟩ := h
    refine x_callS [vI x2] [] (dA D_X11_asks 6 rfl) cw_RX11_141 rfl rfl (Nat.le_of_ble_eq_true rfl) hd1 (zk k) (zk n) (S_X11_isSort h8 (by omega) ?_) (kI (fun _ _ h => h))
    show X G Y_X11_asks d k n 13 [vA 0, vI x1, vI x2, vI x3, vI x4, vI x5, vI x6, vI x7, vI x8] [vI (if (x2 = 0) ∨ (x2 = 1) then 1 else 0)] M Q
    refine x_if_eqB (tgt := 27) (dA D_X11_asks 7 rfl) (by decide) ⟨fun c => ?_, fun c => ?_⟩
    · have h := h.1 c
      refine x_iconst (dA D_X11_asks 13 rfl) ?_
      exact x_ireturn (dA D_X11_asks 14 rfl) rfl h
    · have h := h.2 c
      refine x_aload_n (dA D_X11_asks 8 rfl) rfl ?_
      refine x_get (v := vA 1) (dA D_X11_asks 9 rfl) fw_RX11_12 (sO_0 hS) (congrArg (rfV G) (sR_0_0 hS)) ?_
      refine x_iload_n (dA D_X11_asks 10 rfl) rfl ?_
      obtain ⟨h9, h⟩ := h
      obtain ⟨h10, h⟩ := h
      refine x_callV 3 [vI x3] [] (dA D_X11_asks 11 rfl) cw_RX11_128 rfl rfl (Nat.le_of_ble_eq_true rfl) (by decide) rfl hd1 (zk k) (zk n) (sO_1 hS) (S_X4_hasScene hS h9 h10 (by omega) ?_) (kI (fun _ _ h => h))
      show X G Y_X11_asks d k n 24 [vA 0, vI x1, vI x2, vI x3, vI x4, vI x5, vI x6, vI x7, vI x8] [vI (if (0 ≤ x3) ∧ (x3 < (rd M 1 0)) then 1 else 0)] M Q
      refine x_if_neB (tgt := 29) (dA D_X11_asks 12 rfl) (by decide) ⟨fun c => ?_, fun c => ?_⟩
      · have h := h.1 c
        refine x_iload (dA D_X11_asks 15 rfl) rfl ?_
        refine x_iconst (dA D_X11_asks 16 rfl) ?_
        obtain ⟨h11, h⟩ := h
        refine x_icmp_eqP (tgt := 47) (dA D_X11_asks 17 rfl) (by decide) h11 ⟨by decide, by decide⟩ ⟨fun c => ?_, fun c => ?_⟩
        · have h := h.1 c
          exact h
        · have h := h.2 c
          refine x_aload_n (dA D_X11_asks 18 rfl) rfl ?_
          refine x_get (v := vA 1) (dA D_X11_asks 19 rfl) fw_RX11_12 (sO_0 hS) (congrArg (rfV G) (sR_0_0 hS)) ?_
          refine x_iload (dA D_X11_asks 20 rfl) rfl ?_
          refine x_callV 3 [vI x4] [] (dA D_X11_asks 21 rfl) cw_RX11_128 rfl rfl (Nat.le_of_ble_eq_true rfl) (by decide) rfl hd1 (zk k) (zk n) (sO_1 hS) (S_X4_hasScene hS h11 h10 (by omega) ?_) (kI (fun _ _ h => h))
          show X G Y_X11_asks d k n 44 [vA 0, vI x1, vI x2, vI x3, vI x4, vI x5, vI x6, vI x7, vI x8] [vI (if (0 ≤ x4) ∧ (x4 < (rd M 1 0)) then 1 else 0)] M Q
          refine x_if_eqB (tgt := 57) (dA D_X11_asks 22 rfl) (by decide) ⟨fun c => ?_, fun c => ?_⟩
          · have h := h.1 c
            refine x_iconst (dA D_X11_asks 27 rfl) ?_
            exact x_ireturn (dA D_X11_asks 28 rfl) rfl h
          · have h := h.2 c
            exact h
      · have h := h.2 c
        refine x_iconst (dA D_X11_asks 13 rfl) ?_
        exact x_ireturn (dA D_X11_asks 14 rfl) rfl h
  refine x_if_ltP (tgt := 27) (dA D_X11_asks 1 rfl) (by decide) h2 ⟨fun c1 => ?_, fun c1 => ?_⟩
  · exact hA (by first | omega | grind)
  · refine x_iload_n (dA D_X11_asks 2 rfl) rfl ?_
    refine x_iconst (dA D_X11_asks 3 rfl) ?_
    refine x_icmp_gtP (tgt := 27) (dA D_X11_asks 4 rfl) (by decide) h2 ⟨by decide, by decide⟩ ⟨fun c5 => ?_, fun c5 => ?_⟩
    · exact hA (by first | omega | grind)
    · exact hB (by first | omega | grind)
theorem C_X11_asks {G : GG} {d : Nat} {x1 x2 x3 x4 x5 x6 x7 x8 : Int} {M : MM} {Q : PV → MM → Prop} (h : X G Y_X11_asks d 0 0 0 [vA 0, vI x1, vI x2, vI x3, vI x4, vI x5, vI x6, vI x7, vI x8] [] M Q) : C G Y_X11_asks d 0 0 [vA 0, vI x1, vI x2, vI x3, vI x4, vI x5, vI x6, vI x7, vI x8] M Q := X.entry (by decide) (Nat.le_of_ble_eq_true rfl) rfl rfl rfl h
set_option maxRecDepth 100000 in
theorem B_X11_asks_47 {G : GG} {d : Nat} {k n : Nat} {x1 x2 x3 x4 x5 x6 x7 x8 : Int} {r : Int → Int} {sm : Int → LSm} {M : MM} {Q : PV → MM → Prop} (hd : 5 ≤ d) (hS : Sh M) (h : inR x5 ∧ inR x6 ∧ (((0 ≤ x5) ∧ ((x5 ≤ 5) ∧ ((0 ≤ x6) ∧ (x6 ≤ 5))) → inR x7 ∧ inR x8 ∧ ((((x7 < 0) ∨ ((300 < x7) ∨ ((x8 < 0) ∨ (4 < x8)))) → Q (vI (-1)) M) ∧ (¬ ((x7 < 0) ∨ ((300 < x7) ∨ ((x8 < 0) ∨ (4 < x8)))) → inR x2 ∧ ∀ M25, (Fr KC M M25 ∧ Fc0 M25 = fcts x2 x3 x4 (x5 + x6) (if x2 = 0 then x5 else x6) x7 x8) → Sh M25 → COK M25 r sm ∧ FR (Fc0 M25) ∧ ((x1 = 0 ∨ x1 = 1)) ∧ ∀ r32 M31, (Fr KB M25 M31 ∧ r32 = askV r sm (Fc0 M25) x1) → Sh M31 → Q (vI r32) M31))) ∧ (¬ ((0 ≤ x5) ∧ ((x5 ≤ 5) ∧ ((0 ≤ x6) ∧ (x6 ≤ 5)))) → Q (vI (-1)) M))) : X G Y_X11_asks d k n 47 [vA 0, vI x1, vI x2, vI x3, vI x4, vI x5, vI x6, vI x7, vI x8] [] M Q := by
  have hd1 : 1 ≤ d := by omega
  refine x_iload (dA D_X11_asks 23 rfl) rfl ?_
  refine x_iload (dA D_X11_asks 24 rfl) rfl ?_
  obtain ⟨h1, h⟩ := h
  obtain ⟨h2, h⟩ := h
  refine x_callS [vI x5, vI x6] [] (dA D_X11_asks 25 rfl) cw_RX11_182 rfl rfl (Nat.le_of_ble_eq_true rfl) hd1 (zk k) (zk n) (S_X11_isCrowd h1 h2 (by omega) ?_) (kI (fun _ _ h => h))
  show X G Y_X11_asks d k n 54 [vA 0, vI x1, vI x2, vI x3, vI x4, vI x5, vI x6, vI x7, vI x8] [vI (if (0 ≤ x5) ∧ ((x5 ≤ 5) ∧ ((0 ≤ x6) ∧ (x6 ≤ 5))) then 1 else 0)] M Q
  refine x_if_neB (tgt := 59) (dA D_X11_asks 26 rfl) (by decide) ⟨fun c => ?_, fun c => ?_⟩
  · have h := h.1 c
    refine x_iload (dA D_X11_asks 29 rfl) rfl ?_
    obtain ⟨h4, h⟩ := h
    obtain ⟨h10, h⟩ := h
    have hA : ((x7 < 0) ∨ ((300 < x7) ∨ ((x8 < 0) ∨ (4 < x8)))) → X G Y_X11_asks d k n 83 [vA 0, vI x1, vI x2, vI x3, vI x4, vI x5, vI x6, vI x7, vI x8] [] M Q := by
      intro c34
      have h := h.1 c34
      refine x_iconst (dA D_X11_asks 39 rfl) ?_
      exact x_ireturn (dA D_X11_asks 40 rfl) rfl h
    have hB : ¬ ((x7 < 0) ∨ ((300 < x7) ∨ ((x8 < 0) ∨ (4 < x8)))) → X G Y_X11_asks d k n 85 [vA 0, vI x1, vI x2, vI x3, vI x4, vI x5, vI x6, vI x7, vI x8] [] M Q := by
      intro c34
      have h := h.2 c34
      refine x_aload_n (dA D_X11_asks 41 rfl) rfl ?_
      refine x_get (v := vA 22) (dA D_X11_asks 42 rfl) fw_RX11_52 (sO_0 hS) (congrArg (rfV G) (sR_0_9 hS)) ?_
      refine x_iload_n (dA D_X11_asks 43 rfl) rfl ?_
      refine x_iload_n (dA D_X11_asks 44 rfl) rfl ?_
      refine x_iload (dA D_X11_asks 45 rfl) rfl ?_
      refine x_iload (dA D_X11_asks 46 rfl) rfl ?_
      refine x_iload (dA D_X11_asks 47 rfl) rfl ?_
      refine x_iload (dA D_X11_asks 48 rfl) rfl ?_
      refine x_iload (dA D_X11_asks 49 rfl) rfl ?_
      obtain ⟨h24, h⟩ := h
      refine x_callV 0 [vI x2, vI x3, vI x4, vI x5, vI x6, vI x7, vI x8] [] (dA D_X11_asks 50 rfl) cw_RX11_185 rfl rfl (Nat.le_of_ble_eq_true rfl) (by decide) rfl hd1 (zk k) (zk n) (sO_22 hS) (T_X0_about hS h24 (by omega) (fun M25 p27 hM25 => ?_)) (kU (fun _ h => h))
      have h := h M25 p27 hM25
      show X G Y_X11_asks d k n 104 [vA 0, vI x1, vI x2, vI x3, vI x4, vI x5, vI x6, vI x7, vI x8] [] M25 Q
      refine x_aload_n (dA D_X11_asks 51 rfl) rfl ?_
      refine x_get (v := vA 22) (dA D_X11_asks 52 rfl) fw_RX11_52 (sO_0 hM25) (congrArg (rfV G) (sR_0_9 hM25)) ?_
      refine x_iload_n (dA D_X11_asks 53 rfl) rfl ?_
      obtain ⟨h28, h⟩ := h
      obtain ⟨h29, h⟩ := h
      obtain ⟨h30, h⟩ := h
      refine x_callV 0 [vI x1] [] (dA D_X11_asks 54 rfl) cw_RX11_189 rfl rfl (Nat.le_of_ble_eq_true rfl) (by decide) rfl hd1 (zk k) (zk n) (sO_22 hM25) (T_X0_tells hM25 h28 h29 h30 (by omega) (fun r32 M31 p33 hM31 => ?_)) (kI (fun _ _ h => h))
      have h := h r32 M31 p33 hM31
      show X G Y_X11_asks d k n 112 [vA 0, vI x1, vI x2, vI x3, vI x4, vI x5, vI x6, vI x7, vI x8] [vI r32] M31 Q
      exact x_ireturn (dA D_X11_asks 55 rfl) rfl h
    refine x_if_ltP (tgt := 83) (dA D_X11_asks 30 rfl) (by decide) h4 ⟨fun c3 => ?_, fun c3 => ?_⟩
    · exact hA (by first | omega | grind)
    · refine x_iload (dA D_X11_asks 31 rfl) rfl ?_
      refine x_sipush (dA D_X11_asks 32 rfl) (by decide) (by decide) ?_
      refine x_icmp_gtP (tgt := 83) (dA D_X11_asks 33 rfl) (by decide) h4 ⟨by decide, by decide⟩ ⟨fun c7 => ?_, fun c7 => ?_⟩
      · exact hA (by first | omega | grind)
      · refine x_iload (dA D_X11_asks 34 rfl) rfl ?_
        refine x_if_ltP (tgt := 83) (dA D_X11_asks 35 rfl) (by decide) h10 ⟨fun c9 => ?_, fun c9 => ?_⟩
        · exact hA (by first | omega | grind)
        · refine x_iload (dA D_X11_asks 36 rfl) rfl ?_
          refine x_iconst (dA D_X11_asks 37 rfl) ?_
          refine x_icmp_leP (tgt := 85) (dA D_X11_asks 38 rfl) (by decide) h10 ⟨by decide, by decide⟩ ⟨fun c13 => ?_, fun c13 => ?_⟩
          · exact hB (by first | omega | grind)
          · exact hA (by first | omega | grind)
  · have h := h.2 c
    refine x_iconst (dA D_X11_asks 27 rfl) ?_
    exact x_ireturn (dA D_X11_asks 28 rfl) rfl h
set_option maxRecDepth 100000 in
theorem B_X11_can_0 {G : GG} {d : Nat} {k n : Nat} {x1 : Int} {r : Int → Int} {M : MM} {Q : PV → MM → Prop} (hd : 4 ≤ d) (hS : Sh M) (h : inR x1 ∧ ((¬ ((0 ≤ x1) ∧ (x1 < (iShl 1 (rd M 1 0)))) → Q (vI (-1)) M) ∧ ((0 ≤ x1) ∧ (x1 < (iShl 1 (rd M 1 0))) → HR M r ∧ RS r ∧ (0 ≤ x1 ∧ x1 < 32) ∧ Q (vI (canB r x1)) M))) : X G Y_X11_can d k n 0 [vA 0, vI x1] [] M Q := by
  have hd1 : 1 ≤ d := by omega
  refine x_aload_n (dA D_X11_can 0 rfl) rfl ?_
  refine x_get (v := vA 1) (dA D_X11_can 1 rfl) fw_RX11_12 (sO_0 hS) (congrArg (rfV G) (sR_0_0 hS)) ?_
  refine x_iload_n (dA D_X11_can 2 rfl) rfl ?_
  obtain ⟨h1, h⟩ := h
  refine x_callV 3 [vI x1] [] (dA D_X11_can 3 rfl) cw_RX11_192 rfl rfl (Nat.le_of_ble_eq_true rfl) (by decide) rfl hd1 (zk k) (zk n) (sO_1 hS) (S_X4_isSet hS h1 (by omega) ?_) (kI (fun _ _ h => h))
  show X G Y_X11_can d k n 8 [vA 0, vI x1] [vI (if (0 ≤ x1) ∧ (x1 < (iShl 1 (rd M 1 0))) then 1 else 0)] M Q
  refine x_if_eqB (tgt := 22) (dA D_X11_can 4 rfl) (by decide) ⟨fun c => ?_, fun c => ?_⟩
  · have h := h.1 c
    refine x_iconst (dA D_X11_can 10 rfl) ?_
    exact x_ireturn (dA D_X11_can 11 rfl) rfl h
  · have h := h.2 c
    refine x_aload_n (dA D_X11_can 5 rfl) rfl ?_
    refine x_get (v := vA 1) (dA D_X11_can 6 rfl) fw_RX11_12 (sO_0 hS) (congrArg (rfV G) (sR_0_0 hS)) ?_
    refine x_iload_n (dA D_X11_can 7 rfl) rfl ?_
    obtain ⟨h2, h⟩ := h
    obtain ⟨h3, h⟩ := h
    obtain ⟨h4, h⟩ := h
    refine x_callV 3 [vI x1] [] (dA D_X11_can 8 rfl) cw_RX11_195 rfl rfl (Nat.le_of_ble_eq_true rfl) (by decide) rfl hd1 (zk k) (zk n) (sO_1 hS) (S_X4_open hS h2 h3 h4 (by omega) ?_) (kI (fun _ _ h => h))
    show X G Y_X11_can d k n 19 [vA 0, vI x1] [vI (canB r x1)] M Q
    refine x_goto (tgt := 23) (dA D_X11_can 9 rfl) (by decide) ?_
    exact x_ireturn (dA D_X11_can 11 rfl) rfl h
theorem C_X11_can {G : GG} {d : Nat} {x1 : Int} {M : MM} {Q : PV → MM → Prop} (h : X G Y_X11_can d 0 0 0 [vA 0, vI x1] [] M Q) : C G Y_X11_can d 0 0 [vA 0, vI x1] M Q := X.entry (by decide) (Nat.le_of_ble_eq_true rfl) rfl rfl rfl h
set_option maxRecDepth 100000 in
theorem B_X11_book_0 {G : GG} {d : Nat} {k n : Nat} {x1 : Int} {r : Int → Int} {M : MM} {Q : PV → MM → Prop} (hd : 2 ≤ d) (hS : Sh M) (h : inR x1 ∧ inR (rd M 1 0) ∧ (((0 ≤ x1) ∧ (x1 < (rd M 1 0)) → HR M r ∧ RS r ∧ inR (rd M 1 12) ∧ ((((inRow (fun i => r (45 + i)) x1 (r 3) = true) ∨ ((rd M 1 12) = 5)) → ∀ M20, M20 = refM M (-3 : Int) → Sh M20 → Q (vI (-3 : Int)) M20) ∧ (¬ ((inRow (fun i => r (45 + i)) x1 (r 3) = true) ∨ ((rd M 1 12) = 5)) → 0 ≤ (rd M 1 12) ∧ (rd M 1 12) < 5 ∧ ∀ M23, M23 = wr M 10 (rd M 1 12) x1 → Sh M23 → ∀ M24, M24 = wr M23 1 12 ((rd M23 1 12) + 1) → Sh M24 → ∀ M25, M25 = wr M24 39 4 0 → Sh M25 → ∀ M26, M26 = accM M25 → Sh M26 → Q (vI (rd M25 1 12)) M26))) ∧ (¬ ((0 ≤ x1) ∧ (x1 < (rd M 1 0))) → ∀ M28, M28 = refM M (-2 : Int) → Sh M28 → Q (vI (-2 : Int)) M28))) : X G Y_X11_book d k n 0 [vA 0, vI x1] [] M Q := by
  have hd1 : 1 ≤ d := by omega
  refine x_aload_n (dA D_X11_book 0 rfl) rfl ?_
  refine x_get (v := vA 1) (dA D_X11_book 1 rfl) fw_RX11_12 (sO_0 hS) (congrArg (rfV G) (sR_0_0 hS)) ?_
  refine x_iload_n (dA D_X11_book 2 rfl) rfl ?_
  obtain ⟨h1, h⟩ := h
  obtain ⟨h2, h⟩ := h
  refine x_callV 3 [vI x1] [] (dA D_X11_book 3 rfl) cw_RX11_128 rfl rfl (Nat.le_of_ble_eq_true rfl) (by decide) rfl hd1 (zk k) (zk n) (sO_1 hS) (S_X4_hasScene hS h1 h2 (by omega) ?_) (kI (fun _ _ h => h))
  show X G Y_X11_book d k n 8 [vA 0, vI x1] [vI (if (0 ≤ x1) ∧ (x1 < (rd M 1 0)) then 1 else 0)] M Q
  refine x_if_neB (tgt := 18) (dA D_X11_book 4 rfl) (by decide) ⟨fun c => ?_, fun c => ?_⟩
  · have h := h.1 c
    refine x_aload_n (dA D_X11_book 9 rfl) rfl ?_
    refine x_get (v := vA 1) (dA D_X11_book 10 rfl) fw_RX11_12 (sO_0 hS) (congrArg (rfV G) (sR_0_0 hS)) ?_
    refine x_iload_n (dA D_X11_book 11 rfl) rfl ?_
    obtain ⟨h3, h⟩ := h
    obtain ⟨h4, h⟩ := h
    refine x_callV 3 [vI x1] [] (dA D_X11_book 12 rfl) cw_RX11_198 rfl rfl (Nat.le_of_ble_eq_true rfl) (by decide) rfl hd1 (zk k) (zk n) (sO_1 hS) (S_X4_booked hS h3 h4 h1 (by omega) ?_) (kI (fun _ _ h => h))
    show X G Y_X11_book d k n 26 [vA 0, vI x1] [vI (if inRow (fun i => r (45 + i)) x1 (r 3) = true then 1 else 0)] M Q
    obtain ⟨h11, h⟩ := h
    have hA : ((inRow (fun i => r (45 + i)) x1 (r 3) = true) ∨ ((rd M 1 12) = 5)) → X G Y_X11_book d k n 40 [vA 0, vI x1] [] M Q := by
      intro c27
      have h := h.1 c27
      refine x_aload_n (dA D_X11_book 19 rfl) rfl ?_
      refine x_bipush (dA D_X11_book 20 rfl) (by decide) (by decide) ?_
      refine x_callV 10 [vI (-3)] [] (dA D_X11_book 21 rfl) cw_RX11_104 rfl rfl (Nat.le_of_ble_eq_true rfl) (by decide) rfl hd1 (zk k) (zk n) (sO_0 hS) (S_X11_refuse hS ⟨by decide, by decide, by decide, by decide⟩ (by omega) ?_) (kI (fun _ _ h => h))
      refine x_nmM (fun M20 eM20 => ?_)
      have hM20 : Sh M20 := eM20 ▸ (sRef hS)
      have h := h M20 eM20 hM20
      show X G Y_X11_book d k n 46 [vA 0, vI x1] [vI (-3 : Int)] M20 Q
      exact x_ireturn (dA D_X11_book 22 rfl) rfl h
    have hB : ¬ ((inRow (fun i => r (45 + i)) x1 (r 3) = true) ∨ ((rd M 1 12) = 5)) → X G Y_X11_book d k n 47 [vA 0, vI x1] [] M Q := by
      intro c27
      have h := h.2 c27
      refine x_aload_n (dA D_X11_book 23 rfl) rfl ?_
      refine x_get (v := vA 1) (dA D_X11_book 24 rfl) fw_RX11_12 (sO_0 hS) (congrArg (rfV G) (sR_0_0 hS)) ?_
      refine x_get (v := vA 10) (dA D_X11_book 25 rfl) fw_RX11_204 (sO_1 hS) (congrArg (rfV G) (sR_1_11 hS)) ?_
      refine x_aload_n (dA D_X11_book 26 rfl) rfl ?_
      refine x_get (v := vA 1) (dA D_X11_book 27 rfl) fw_RX11_12 (sO_0 hS) (congrArg (rfV G) (sR_0_0 hS)) ?_
      refine x_get (v := vI (rd M 1 12)) (dA D_X11_book 28 rfl) fw_RX11_201 (sO_1 hS) rfl ?_
      refine x_iload_n (dA D_X11_book 29 rfl) rfl ?_
      obtain ⟨h21, h⟩ := h
      obtain ⟨h22, h⟩ := h
      refine x_iast (dA D_X11_book 30 rfl) (sA_10 hS h21 h22) ?_
      refine x_nmM (fun M23 eM23 => ?_)
      have hM23 : Sh M23 := eM23 ▸ (sW_10 hS)
      have h := h M23 eM23 hM23
      refine x_aload_n (dA D_X11_book 31 rfl) rfl ?_
      refine x_get (v := vA 1) (dA D_X11_book 32 rfl) fw_RX11_12 (sO_0 hM23) (congrArg (rfV G) (sR_0_0 hM23)) ?_
      refine x_dup (dA D_X11_book 33 rfl) rfl ?_
      refine x_get (v := vI (rd M23 1 12)) (dA D_X11_book 34 rfl) fw_RX11_201 (sO_1 hM23) rfl ?_
      refine x_iconst (dA D_X11_book 35 rfl) ?_
      refine x_iadd (dA D_X11_book 36 rfl) ?_
      refine x_put (x := (rd M23 1 12) + 1) (dA D_X11_book 37 rfl) fw_RX11_201 (fun _ _ hc => by cases hc; exact Or.inl rfl) (sO_1 hM23) rfl rfl rfl ?_
      refine x_nmM (fun M24 eM24 => ?_)
      have hM24 : Sh M24 := eM24 ▸ (sW_1_12 hM23)
      have h := h M24 eM24 hM24
      refine x_aload_n (dA D_X11_book 38 rfl) rfl ?_
      refine x_get (v := vA 39) (dA D_X11_book 39 rfl) fw_RX11_79 (sO_0 hM24) (congrArg (rfV G) (sR_0_12 hM24)) ?_
      refine x_callV 5 [] [] (dA D_X11_book 40 rfl) cw_RX11_207 rfl rfl (Nat.le_of_ble_eq_true rfl) (by decide) rfl hd1 (zk k) (zk n) (sO_39 hM24) (S_X6_bookChanged hM24  (by omega) ?_) (kU (fun _ h => h))
      refine x_nmM (fun M25 eM25 => ?_)
      have hM25 : Sh M25 := eM25 ▸ (sW_39_4 hM24)
      have h := h M25 eM25 hM25
      show X G Y_X11_book d k n 83 [vA 0, vI x1] [] M25 Q
      refine x_aload_n (dA D_X11_book 41 rfl) rfl ?_
      refine x_aload_n (dA D_X11_book 42 rfl) rfl ?_
      refine x_get (v := vA 1) (dA D_X11_book 43 rfl) fw_RX11_12 (sO_0 hM25) (congrArg (rfV G) (sR_0_0 hM25)) ?_
      refine x_get (v := vI (rd M25 1 12)) (dA D_X11_book 44 rfl) fw_RX11_201 (sO_1 hM25) rfl ?_
      refine x_callV 10 [vI (rd M25 1 12)] [] (dA D_X11_book 45 rfl) cw_RX11_118 rfl rfl (Nat.le_of_ble_eq_true rfl) (by decide) rfl hd1 (zk k) (zk n) (sO_0 hM25) (S_X11_accept hM25  (by omega) ?_) (kI (fun _ _ h => h))
      refine x_nmM (fun M26 eM26 => ?_)
      have hM26 : Sh M26 := eM26 ▸ (sW_0_7 hM25)
      have h := h M26 eM26 hM26
      show X G Y_X11_book d k n 94 [vA 0, vI x1] [vI (rd M25 1 12)] M26 Q
      exact x_ireturn (dA D_X11_book 46 rfl) rfl h
    refine x_if_neB (tgt := 40) (dA D_X11_book 13 rfl) (by decide) ⟨fun c5 => ?_, fun c5 => ?_⟩
    · exact hA (by first | omega | grind)
    · refine x_aload_n (dA D_X11_book 14 rfl) rfl ?_
      refine x_get (v := vA 1) (dA D_X11_book 15 rfl) fw_RX11_12 (sO_0 hS) (congrArg (rfV G) (sR_0_0 hS)) ?_
      refine x_get (v := vI (rd M 1 12)) (dA D_X11_book 16 rfl) fw_RX11_201 (sO_1 hS) rfl ?_
      refine x_iconst (dA D_X11_book 17 rfl) ?_
      refine x_icmp_neP (tgt := 47) (dA D_X11_book 18 rfl) (by decide) h11 ⟨by decide, by decide⟩ ⟨fun c10 => ?_, fun c10 => ?_⟩
      · exact hB (by first | omega | grind)
      · exact hA (by first | omega | grind)
  · have h := h.2 c
    refine x_aload_n (dA D_X11_book 5 rfl) rfl ?_
    refine x_bipush (dA D_X11_book 6 rfl) (by decide) (by decide) ?_
    refine x_callV 10 [vI (-2)] [] (dA D_X11_book 7 rfl) cw_RX11_104 rfl rfl (Nat.le_of_ble_eq_true rfl) (by decide) rfl hd1 (zk k) (zk n) (sO_0 hS) (S_X11_refuse hS ⟨by decide, by decide, by decide, by decide⟩ (by omega) ?_) (kI (fun _ _ h => h))
    refine x_nmM (fun M28 eM28 => ?_)
    have hM28 : Sh M28 := eM28 ▸ (sRef hS)
    have h := h M28 eM28 hM28
    show X G Y_X11_book d k n 17 [vA 0, vI x1] [vI (-2 : Int)] M28 Q
    exact x_ireturn (dA D_X11_book 8 rfl) rfl h
theorem C_X11_book {G : GG} {d : Nat} {x1 : Int} {M : MM} {Q : PV → MM → Prop} (h : X G Y_X11_book d 0 0 0 [vA 0, vI x1] [] M Q) : C G Y_X11_book d 0 0 [vA 0, vI x1] M Q := X.entry (by decide) (Nat.le_of_ble_eq_true rfl) rfl rfl rfl h
set_option maxRecDepth 100000 in
theorem B_X11_worth_0 {G : GG} {d : Nat} {k n : Nat} {x1 : Int} {M : MM} {Q : PV → MM → Prop} (hd : 2 ≤ d) (hS : Sh M) (h : inR x1 ∧ (((0 ≤ x1) ∧ (x1 ≤ 3) → ((x1 ≠ 3 → C G Y_X6_tells (d - 1) 0 0 [vA 39, vI x1, vI 8] M (rA (fun r3 M2 => Sh M2 ∧ C G Y_X2_above (d - 1) 0 0 [vA r3, vI 98] M2 (rI (fun r5 M4 => Sh M4 ∧ Q (vI r5) M4))))) ∧ (x1 = 3 → C G Y_X6_fix (d - 1) 0 0 [vA 39] M (rU (fun M6 => Sh M6 ∧ C G Y_X6_tells (d - 1) 0 0 [vA 39, vI x1, vI 8] M6 (rA (fun r8 M7 => Sh M7 ∧ C G Y_X2_above (d - 1) 0 0 [vA r8, vI 98] M7 (rI (fun r10 M9 => Sh M9 ∧ Q (vI r10) M9))))))))) ∧ (¬ ((0 ≤ x1) ∧ (x1 ≤ 3)) → Q (vI (-1)) M))) : X G Y_X11_worth d k n 0 [vA 0, vI x1] [] M Q := by
  have hd1 : 1 ≤ d := by omega
  refine x_iload_n (dA D_X11_worth 0 rfl) rfl ?_
  obtain ⟨h1, h⟩ := h
  refine x_callS [vI x1] [] (dA D_X11_worth 1 rfl) cw_RX11_210 rfl rfl (Nat.le_of_ble_eq_true rfl) hd1 (zk k) (zk n) (S_X11_isChooser h1 (by omega) ?_) (kI (fun _ _ h => h))
  show X G Y_X11_worth d k n 4 [vA 0, vI x1] [vI (if (0 ≤ x1) ∧ (x1 ≤ 3) then 1 else 0)] M Q
  refine x_if_neB (tgt := 9) (dA D_X11_worth 2 rfl) (by decide) ⟨fun c => ?_, fun c => ?_⟩
  · have h := h.1 c
    refine x_iload_n (dA D_X11_worth 5 rfl) rfl ?_
    refine x_iconst (dA D_X11_worth 6 rfl) ?_
    refine x_icmp_neP (tgt := 21) (dA D_X11_worth 7 rfl) (by decide) h1 ⟨by decide, by decide⟩ ⟨fun c => ?_, fun c => ?_⟩
    · have h := h.1 c
      refine x_aload_n (dA D_X11_worth 11 rfl) rfl ?_
      refine x_get (v := vA 39) (dA D_X11_worth 12 rfl) fw_RX11_79 (sO_0 hS) (congrArg (rfV G) (sR_0_12 hS)) ?_
      refine x_iload_n (dA D_X11_worth 13 rfl) rfl ?_
      refine x_bipush (dA D_X11_worth 14 rfl) (by decide) (by decide) ?_
      refine x_callV 5 [vI x1, vI 8] [] (dA D_X11_worth 15 rfl) cw_RX11_216 rfl rfl (Nat.le_of_ble_eq_true rfl) (by decide) rfl hd1 (zk k) (zk n) (sO_39 hS) h (kA (fun r3 M2 h => ?_))
      obtain ⟨hM2, h⟩ := h
      refine x_bipush (dA D_X11_worth 16 rfl) (by decide) (by decide) ?_
      refine x_callS [vA r3, vI 98] [] (dA D_X11_worth 17 rfl) cw_RX11_219 rfl rfl (Nat.le_of_ble_eq_true rfl) hd1 (zk k) (zk n) h (kI (fun r5 M4 h => ?_))
      obtain ⟨hM4, h⟩ := h
      exact x_ireturn (dA D_X11_worth 18 rfl) rfl h
    · have h := h.2 c
      refine x_aload_n (dA D_X11_worth 8 rfl) rfl ?_
      refine x_get (v := vA 39) (dA D_X11_worth 9 rfl) fw_RX11_79 (sO_0 hS) (congrArg (rfV G) (sR_0_12 hS)) ?_
      refine x_callV 5 [] [] (dA D_X11_worth 10 rfl) cw_RX11_213 rfl rfl (Nat.le_of_ble_eq_true rfl) (by decide) rfl hd1 (zk k) (zk n) (sO_39 hS) h (kU (fun M6 h => ?_))
      obtain ⟨hM6, h⟩ := h
      refine x_aload_n (dA D_X11_worth 11 rfl) rfl ?_
      refine x_get (v := vA 39) (dA D_X11_worth 12 rfl) fw_RX11_79 (sO_0 hM6) (congrArg (rfV G) (sR_0_12 hM6)) ?_
      refine x_iload_n (dA D_X11_worth 13 rfl) rfl ?_
      refine x_bipush (dA D_X11_worth 14 rfl) (by decide) (by decide) ?_
      refine x_callV 5 [vI x1, vI 8] [] (dA D_X11_worth 15 rfl) cw_RX11_216 rfl rfl (Nat.le_of_ble_eq_true rfl) (by decide) rfl hd1 (zk k) (zk n) (sO_39 hM6) h (kA (fun r8 M7 h => ?_))
      obtain ⟨hM7, h⟩ := h
      refine x_bipush (dA D_X11_worth 16 rfl) (by decide) (by decide) ?_
      refine x_callS [vA r8, vI 98] [] (dA D_X11_worth 17 rfl) cw_RX11_219 rfl rfl (Nat.le_of_ble_eq_true rfl) hd1 (zk k) (zk n) h (kI (fun r10 M9 h => ?_))
      obtain ⟨hM9, h⟩ := h
      exact x_ireturn (dA D_X11_worth 18 rfl) rfl h
  · have h := h.2 c
    refine x_iconst (dA D_X11_worth 3 rfl) ?_
    exact x_ireturn (dA D_X11_worth 4 rfl) rfl h
theorem C_X11_worth {G : GG} {d : Nat} {x1 : Int} {M : MM} {Q : PV → MM → Prop} (h : X G Y_X11_worth d 0 0 0 [vA 0, vI x1] [] M Q) : C G Y_X11_worth d 0 0 [vA 0, vI x1] M Q := X.entry (by decide) (Nat.le_of_ble_eq_true rfl) rfl rfl rfl h
set_option maxRecDepth 100000 in
theorem B_X11_figures_0 {G : GG} {d : Nat} {k n : Nat} {x1 x2 : Int} {M : MM} {Q : PV → MM → Prop} (hd : 2 ≤ d) (hS : Sh M) (h : inR x1 ∧ ((¬ ((0 ≤ x1) ∧ (x1 ≤ 3)) → Q (vI (-1)) M) ∧ ((0 ≤ x1) ∧ (x1 ≤ 3) → inR x2 ∧ ((x2 < 0 → Q (vI (-1)) M) ∧ (0 ≤ x2 → ((x2 ≤ 12 → ((x1 ≠ 3 → C G Y_X6_tells (d - 1) 0 0 [vA 39, vI x1, vI 8] M (rA (fun r4 M3 => Sh M3 ∧ C G Y_X2_nine (d - 1) 0 0 [vA r4, vI (9 * x2)] M3 (rI (fun r6 M5 => Sh M5 ∧ Q (vI r6) M5))))) ∧ (x1 = 3 → C G Y_X6_fix (d - 1) 0 0 [vA 39] M (rU (fun M7 => Sh M7 ∧ C G Y_X6_tells (d - 1) 0 0 [vA 39, vI x1, vI 8] M7 (rA (fun r9 M8 => Sh M8 ∧ C G Y_X2_nine (d - 1) 0 0 [vA r9, vI (9 * x2)] M8 (rI (fun r11 M10 => Sh M10 ∧ Q (vI r11) M10))))))))) ∧ (12 < x2 → Q (vI (-1)) M))))))) : X G Y_X11_figures d k n 0 [vA 0, vI x1, vI x2] [] M Q := by
  have hd1 : 1 ≤ d := by omega
  refine x_iload_n (dA D_X11_figures 0 rfl) rfl ?_
  obtain ⟨h1, h⟩ := h
  refine x_callS [vI x1] [] (dA D_X11_figures 1 rfl) cw_RX11_210 rfl rfl (Nat.le_of_ble_eq_true rfl) hd1 (zk k) (zk n) (S_X11_isChooser h1 (by omega) ?_) (kI (fun _ _ h => h))
  show X G Y_X11_figures d k n 4 [vA 0, vI x1, vI x2] [vI (if (0 ≤ x1) ∧ (x1 ≤ 3) then 1 else 0)] M Q
  refine x_if_eqB (tgt := 17) (dA D_X11_figures 2 rfl) (by decide) ⟨fun c => ?_, fun c => ?_⟩
  · have h := h.1 c
    refine x_iconst (dA D_X11_figures 8 rfl) ?_
    exact x_ireturn (dA D_X11_figures 9 rfl) rfl h
  · have h := h.2 c
    refine x_iload_n (dA D_X11_figures 3 rfl) rfl ?_
    obtain ⟨h2, h⟩ := h
    refine x_if_ltP (tgt := 17) (dA D_X11_figures 4 rfl) (by decide) h2 ⟨fun c => ?_, fun c => ?_⟩
    · have h := h.1 c
      refine x_iconst (dA D_X11_figures 8 rfl) ?_
      exact x_ireturn (dA D_X11_figures 9 rfl) rfl h
    · have h := h.2 c
      refine x_iload_n (dA D_X11_figures 5 rfl) rfl ?_
      refine x_bipush (dA D_X11_figures 6 rfl) (by decide) (by decide) ?_
      refine x_icmp_leP (tgt := 19) (dA D_X11_figures 7 rfl) (by decide) h2 ⟨by decide, by decide⟩ ⟨fun c => ?_, fun c => ?_⟩
      · have h := h.1 c
        refine x_iload_n (dA D_X11_figures 10 rfl) rfl ?_
        refine x_iconst (dA D_X11_figures 11 rfl) ?_
        refine x_icmp_neP (tgt := 31) (dA D_X11_figures 12 rfl) (by decide) h1 ⟨by decide, by decide⟩ ⟨fun c => ?_, fun c => ?_⟩
        · have h := h.1 c
          refine x_aload_n (dA D_X11_figures 16 rfl) rfl ?_
          refine x_get (v := vA 39) (dA D_X11_figures 17 rfl) fw_RX11_79 (sO_0 hS) (congrArg (rfV G) (sR_0_12 hS)) ?_
          refine x_iload_n (dA D_X11_figures 18 rfl) rfl ?_
          refine x_bipush (dA D_X11_figures 19 rfl) (by decide) (by decide) ?_
          refine x_callV 5 [vI x1, vI 8] [] (dA D_X11_figures 20 rfl) cw_RX11_216 rfl rfl (Nat.le_of_ble_eq_true rfl) (by decide) rfl hd1 (zk k) (zk n) (sO_39 hS) h (kA (fun r4 M3 h => ?_))
          obtain ⟨hM3, h⟩ := h
          refine x_bipush (dA D_X11_figures 21 rfl) (by decide) (by decide) ?_
          refine x_iload_n (dA D_X11_figures 22 rfl) rfl ?_
          refine x_imul (dA D_X11_figures 23 rfl) ?_
          refine x_callS [vA r4, vI (9 * x2)] [] (dA D_X11_figures 24 rfl) cw_RX11_225 rfl rfl (Nat.le_of_ble_eq_true rfl) hd1 (zk k) (zk n) h (kI (fun r6 M5 h => ?_))
          obtain ⟨hM5, h⟩ := h
          exact x_ireturn (dA D_X11_figures 25 rfl) rfl h
        · have h := h.2 c
          refine x_aload_n (dA D_X11_figures 13 rfl) rfl ?_
          refine x_get (v := vA 39) (dA D_X11_figures 14 rfl) fw_RX11_79 (sO_0 hS) (congrArg (rfV G) (sR_0_12 hS)) ?_
          refine x_callV 5 [] [] (dA D_X11_figures 15 rfl) cw_RX11_213 rfl rfl (Nat.le_of_ble_eq_true rfl) (by decide) rfl hd1 (zk k) (zk n) (sO_39 hS) h (kU (fun M7 h => ?_))
          obtain ⟨hM7, h⟩ := h
          refine x_aload_n (dA D_X11_figures 16 rfl) rfl ?_
          refine x_get (v := vA 39) (dA D_X11_figures 17 rfl) fw_RX11_79 (sO_0 hM7) (congrArg (rfV G) (sR_0_12 hM7)) ?_
          refine x_iload_n (dA D_X11_figures 18 rfl) rfl ?_
          refine x_bipush (dA D_X11_figures 19 rfl) (by decide) (by decide) ?_
          refine x_callV 5 [vI x1, vI 8] [] (dA D_X11_figures 20 rfl) cw_RX11_216 rfl rfl (Nat.le_of_ble_eq_true rfl) (by decide) rfl hd1 (zk k) (zk n) (sO_39 hM7) h (kA (fun r9 M8 h => ?_))
          obtain ⟨hM8, h⟩ := h
          refine x_bipush (dA D_X11_figures 21 rfl) (by decide) (by decide) ?_
          refine x_iload_n (dA D_X11_figures 22 rfl) rfl ?_
          refine x_imul (dA D_X11_figures 23 rfl) ?_
          refine x_callS [vA r9, vI (9 * x2)] [] (dA D_X11_figures 24 rfl) cw_RX11_225 rfl rfl (Nat.le_of_ble_eq_true rfl) hd1 (zk k) (zk n) h (kI (fun r11 M10 h => ?_))
          obtain ⟨hM10, h⟩ := h
          exact x_ireturn (dA D_X11_figures 25 rfl) rfl h
      · have h := h.2 c
        refine x_iconst (dA D_X11_figures 8 rfl) ?_
        exact x_ireturn (dA D_X11_figures 9 rfl) rfl h
theorem C_X11_figures {G : GG} {d : Nat} {x1 x2 : Int} {M : MM} {Q : PV → MM → Prop} (h : X G Y_X11_figures d 0 0 0 [vA 0, vI x1, vI x2] [] M Q) : C G Y_X11_figures d 0 0 [vA 0, vI x1, vI x2] M Q := X.entry (by decide) (Nat.le_of_ble_eq_true rfl) rfl rfl rfl h
set_option maxRecDepth 100000 in
theorem B_X11_next_0 {G : GG} {d : Nat} {k n : Nat} {x1 x2 x3 x4 x5 : Int} {M : MM} {Q : PV → MM → Prop} (hd : 3 ≤ d) (hS : Sh M) (h : inR x1 ∧ ((¬ ((0 ≤ x1) ∧ (x1 ≤ 3)) → Q (vI (-1)) M) ∧ ((0 ≤ x1) ∧ (x1 ≤ 3) → inR x2 ∧ ((¬ ((0 ≤ x2) ∧ (x2 < (iShl 1 (rd M 1 0)))) → Q (vI (-1)) M) ∧ ((0 ≤ x2) ∧ (x2 < (iShl 1 (rd M 1 0))) → inR x3 ∧ (((x2 = 0 ∧ x3 = -1) ∨ (x2 ≠ 0 ∧ 0 ≤ x3 ∧ x3 < 5 ∧ bt x2 x3 = 1) → inR x4 ∧ ((x4 < 0 → Q (vI (-1)) M) ∧ (0 ≤ x4 → inR (rd M 5 0) ∧ (((rd M 5 0) < x4 → Q (vI (-1)) M) ∧ (x4 ≤ (rd M 5 0) → inR x5 ∧ ((x5 < 0 → Q (vI (-1)) M) ∧ (0 ≤ x5 → inR (rd M 5 1) ∧ ((x5 ≤ (rd M 5 1) → inR (x4 + x5) ∧ (((x4 + x5) ≠ 0 → ((x1 ≠ 3 → X G Y_X11_next d k n 90 [vA 0, vI x1, vI x2, vI x3, vI x4, vI x5] [] M Q) ∧ (x1 = 3 → C G Y_X6_fix (d - 1) 0 0 [vA 39] M (rU (fun M9 => Sh M9 ∧ X G Y_X11_next d k n 90 [vA 0, vI x1, vI x2, vI x3, vI x4, vI x5] [] M9 Q))))) ∧ ((x4 + x5) = 0 → Q (vI (-1)) M))) ∧ ((rd M 5 1) < x5 → Q (vI (-1)) M))))))))) ∧ (¬ ((x2 = 0 ∧ x3 = -1) ∨ (x2 ≠ 0 ∧ 0 ≤ x3 ∧ x3 < 5 ∧ bt x2 x3 = 1)) → Q (vI (-1)) M))))))) : X G Y_X11_next d k n 0 [vA 0, vI x1, vI x2, vI x3, vI x4, vI x5] [] M Q := by
  have hd1 : 1 ≤ d := by omega
  refine x_iload_n (dA D_X11_next 0 rfl) rfl ?_
  obtain ⟨h1, h⟩ := h
  refine x_callS [vI x1] [] (dA D_X11_next 1 rfl) cw_RX11_210 rfl rfl (Nat.le_of_ble_eq_true rfl) hd1 (zk k) (zk n) (S_X11_isChooser h1 (by omega) ?_) (kI (fun _ _ h => h))
  show X G Y_X11_next d k n 4 [vA 0, vI x1, vI x2, vI x3, vI x4, vI x5] [vI (if (0 ≤ x1) ∧ (x1 ≤ 3) then 1 else 0)] M Q
  refine x_if_eqB (tgt := 26) (dA D_X11_next 2 rfl) (by decide) ⟨fun c => ?_, fun c => ?_⟩
  · have h := h.1 c
    refine x_iconst (dA D_X11_next 12 rfl) ?_
    exact x_ireturn (dA D_X11_next 13 rfl) rfl h
  · have h := h.2 c
    refine x_aload_n (dA D_X11_next 3 rfl) rfl ?_
    refine x_get (v := vA 1) (dA D_X11_next 4 rfl) fw_RX11_12 (sO_0 hS) (congrArg (rfV G) (sR_0_0 hS)) ?_
    refine x_iload_n (dA D_X11_next 5 rfl) rfl ?_
    obtain ⟨h2, h⟩ := h
    refine x_callV 3 [vI x2] [] (dA D_X11_next 6 rfl) cw_RX11_192 rfl rfl (Nat.le_of_ble_eq_true rfl) (by decide) rfl hd1 (zk k) (zk n) (sO_1 hS) (S_X4_isSet hS h2 (by omega) ?_) (kI (fun _ _ h => h))
    show X G Y_X11_next d k n 15 [vA 0, vI x1, vI x2, vI x3, vI x4, vI x5] [vI (if (0 ≤ x2) ∧ (x2 < (iShl 1 (rd M 1 0))) then 1 else 0)] M Q
    refine x_if_eqB (tgt := 26) (dA D_X11_next 7 rfl) (by decide) ⟨fun c => ?_, fun c => ?_⟩
    · have h := h.1 c
      refine x_iconst (dA D_X11_next 12 rfl) ?_
      exact x_ireturn (dA D_X11_next 13 rfl) rfl h
    · have h := h.2 c
      refine x_iload_n (dA D_X11_next 8 rfl) rfl ?_
      refine x_iload_n (dA D_X11_next 9 rfl) rfl ?_
      obtain ⟨h3, h⟩ := h
      refine x_callS [vI x2, vI x3] [] (dA D_X11_next 10 rfl) cw_RX11_228 rfl rfl (Nat.le_of_ble_eq_true rfl) hd1 (zk k) (zk n) (S_X11_isLatest h2 h3 (by omega) ?_) (kI (fun _ _ h => h))
      show X G Y_X11_next d k n 23 [vA 0, vI x1, vI x2, vI x3, vI x4, vI x5] [vI (if (x2 = 0 ∧ x3 = -1) ∨ (x2 ≠ 0 ∧ 0 ≤ x3 ∧ x3 < 5 ∧ bt x2 x3 = 1) then 1 else 0)] M Q
      refine x_if_neB (tgt := 28) (dA D_X11_next 11 rfl) (by decide) ⟨fun c => ?_, fun c => ?_⟩
      · have h := h.1 c
        refine x_iload (dA D_X11_next 14 rfl) rfl ?_
        obtain ⟨h4, h⟩ := h
        refine x_if_ltP (tgt := 66) (dA D_X11_next 15 rfl) (by decide) h4 ⟨fun c => ?_, fun c => ?_⟩
        · have h := h.1 c
          refine x_iconst (dA D_X11_next 32 rfl) ?_
          exact x_ireturn (dA D_X11_next 33 rfl) rfl h
        · have h := h.2 c
          refine x_iload (dA D_X11_next 16 rfl) rfl ?_
          refine x_aload_n (dA D_X11_next 17 rfl) rfl ?_
          refine x_get (v := vA 1) (dA D_X11_next 18 rfl) fw_RX11_12 (sO_0 hS) (congrArg (rfV G) (sR_0_0 hS)) ?_
          refine x_get (v := vA 5) (dA D_X11_next 19 rfl) fw_RX11_144 (sO_1 hS) (congrArg (rfV G) (sR_1_4 hS)) ?_
          refine x_iconst (dA D_X11_next 20 rfl) ?_
          refine x_iald (dA D_X11_next 21 rfl) (sA_5 hS (by decide) (by decide)) ?_
          obtain ⟨h5, h⟩ := h
          refine x_icmp_gtP (tgt := 66) (dA D_X11_next 22 rfl) (by decide) h4 h5 ⟨fun c => ?_, fun c => ?_⟩
          · have h := h.1 c
            refine x_iconst (dA D_X11_next 32 rfl) ?_
            exact x_ireturn (dA D_X11_next 33 rfl) rfl h
          · have h := h.2 c
            refine x_iload (dA D_X11_next 23 rfl) rfl ?_
            obtain ⟨h6, h⟩ := h
            refine x_if_ltP (tgt := 66) (dA D_X11_next 24 rfl) (by decide) h6 ⟨fun c => ?_, fun c => ?_⟩
            · have h := h.1 c
              refine x_iconst (dA D_X11_next 32 rfl) ?_
              exact x_ireturn (dA D_X11_next 33 rfl) rfl h
            · have h := h.2 c
              refine x_iload (dA D_X11_next 25 rfl) rfl ?_
              refine x_aload_n (dA D_X11_next 26 rfl) rfl ?_
              refine x_get (v := vA 1) (dA D_X11_next 27 rfl) fw_RX11_12 (sO_0 hS) (congrArg (rfV G) (sR_0_0 hS)) ?_
              refine x_get (v := vA 5) (dA D_X11_next 28 rfl) fw_RX11_144 (sO_1 hS) (congrArg (rfV G) (sR_1_4 hS)) ?_
              refine x_iconst (dA D_X11_next 29 rfl) ?_
              refine x_iald (dA D_X11_next 30 rfl) (sA_5 hS (by decide) (by decide)) ?_
              obtain ⟨h7, h⟩ := h
              refine x_icmp_leP (tgt := 68) (dA D_X11_next 31 rfl) (by decide) h6 h7 ⟨fun c => ?_, fun c => ?_⟩
              · have h := h.1 c
                refine x_iload (dA D_X11_next 34 rfl) rfl ?_
                refine x_iload (dA D_X11_next 35 rfl) rfl ?_
                refine x_iadd (dA D_X11_next 36 rfl) ?_
                obtain ⟨h8, h⟩ := h
                refine x_if_neP (tgt := 78) (dA D_X11_next 37 rfl) (by decide) h8 ⟨fun c => ?_, fun c => ?_⟩
                · have h := h.1 c
                  refine x_iload_n (dA D_X11_next 40 rfl) rfl ?_
                  refine x_iconst (dA D_X11_next 41 rfl) ?_
                  refine x_icmp_neP (tgt := 90) (dA D_X11_next 42 rfl) (by decide) h1 ⟨by decide, by decide⟩ ⟨fun c => ?_, fun c => ?_⟩
                  · have h := h.1 c
                    exact h
                  · have h := h.2 c
                    refine x_aload_n (dA D_X11_next 43 rfl) rfl ?_
                    refine x_get (v := vA 39) (dA D_X11_next 44 rfl) fw_RX11_79 (sO_0 hS) (congrArg (rfV G) (sR_0_12 hS)) ?_
                    refine x_callV 5 [] [] (dA D_X11_next 45 rfl) cw_RX11_213 rfl rfl (Nat.le_of_ble_eq_true rfl) (by decide) rfl hd1 (zk k) (zk n) (sO_39 hS) h (kU (fun M9 h => ?_))
                    obtain ⟨hM9, h⟩ := h
                    exact h
                · have h := h.2 c
                  refine x_iconst (dA D_X11_next 38 rfl) ?_
                  exact x_ireturn (dA D_X11_next 39 rfl) rfl h
              · have h := h.2 c
                refine x_iconst (dA D_X11_next 32 rfl) ?_
                exact x_ireturn (dA D_X11_next 33 rfl) rfl h
      · have h := h.2 c
        refine x_iconst (dA D_X11_next 12 rfl) ?_
        exact x_ireturn (dA D_X11_next 13 rfl) rfl h
theorem C_X11_next {G : GG} {d : Nat} {x1 x2 x3 x4 x5 : Int} {M : MM} {Q : PV → MM → Prop} (h : X G Y_X11_next d 0 0 0 [vA 0, vI x1, vI x2, vI x3, vI x4, vI x5] [] M Q) : C G Y_X11_next d 0 0 [vA 0, vI x1, vI x2, vI x3, vI x4, vI x5] M Q := X.entry (by decide) (Nat.le_of_ble_eq_true rfl) rfl rfl rfl h
set_option maxRecDepth 100000 in
theorem B_X11_next_90 {G : GG} {d : Nat} {k n : Nat} {x1 x2 x3 x4 x5 : Int} {M : MM} {Q : PV → MM → Prop} (hd : 2 ≤ d) (hS : Sh M) (h : inR x1 ∧ ((x1 ≠ 2 → C G Y_X3_choose (d - 1) 0 0 [vA 30, vI x1, vI x2, vI x3, vI x4, vI x5] M (rI (fun r3 M2 => Sh M2 ∧ Q (vI r3) M2))) ∧ (x1 = 2 → 0 ≤ x2 ∧ x2 < 32 ∧ C G Y_X9_settle (d - 1) 0 0 [vA 32, vI x2, vI x3, vI x4, vI x5, vI (pop x2)] M (rU (fun M6 => Sh M6 ∧ C G Y_X3_choose (d - 1) 0 0 [vA 30, vI x1, vI x2, vI x3, vI x4, vI x5] M6 (rI (fun r8 M7 => Sh M7 ∧ Q (vI r8) M7))))))) : X G Y_X11_next d k n 90 [vA 0, vI x1, vI x2, vI x3, vI x4, vI x5] [] M Q := by
  have hd1 : 1 ≤ d := by omega
  refine x_iload_n (dA D_X11_next 46 rfl) rfl ?_
  refine x_iconst (dA D_X11_next 47 rfl) ?_
  obtain ⟨h1, h⟩ := h
  refine x_icmp_neP (tgt := 115) (dA D_X11_next 48 rfl) (by decide) h1 ⟨by decide, by decide⟩ ⟨fun c => ?_, fun c => ?_⟩
  · have h := h.1 c
    refine x_aload_n (dA D_X11_next 59 rfl) rfl ?_
    refine x_get (v := vA 30) (dA D_X11_next 60 rfl) fw_RX11_70 (sO_0 hS) (congrArg (rfV G) (sR_0_11 hS)) ?_
    refine x_iload_n (dA D_X11_next 61 rfl) rfl ?_
    refine x_iload_n (dA D_X11_next 62 rfl) rfl ?_
    refine x_iload_n (dA D_X11_next 63 rfl) rfl ?_
    refine x_iload (dA D_X11_next 64 rfl) rfl ?_
    refine x_iload (dA D_X11_next 65 rfl) rfl ?_
    refine x_callV 2 [vI x1, vI x2, vI x3, vI x4, vI x5] [] (dA D_X11_next 66 rfl) cw_RX11_246 rfl rfl (Nat.le_of_ble_eq_true rfl) (by decide) rfl hd1 (zk k) (zk n) (sO_30 hS) h (kI (fun r3 M2 h => ?_))
    obtain ⟨hM2, h⟩ := h
    exact x_ireturn (dA D_X11_next 67 rfl) rfl h
  · have h := h.2 c
    refine x_aload_n (dA D_X11_next 49 rfl) rfl ?_
    refine x_get (v := vA 30) (dA D_X11_next 50 rfl) fw_RX11_70 (sO_0 hS) (congrArg (rfV G) (sR_0_11 hS)) ?_
    refine x_get (v := vA 32) (dA D_X11_next 51 rfl) fw_RX11_231 (sO_30 hS) (congrArg (rfV G) (sR_30_2 hS)) ?_
    refine x_iload_n (dA D_X11_next 52 rfl) rfl ?_
    refine x_iload_n (dA D_X11_next 53 rfl) rfl ?_
    refine x_iload (dA D_X11_next 54 rfl) rfl ?_
    refine x_iload (dA D_X11_next 55 rfl) rfl ?_
    refine x_iload_n (dA D_X11_next 56 rfl) rfl ?_
    obtain ⟨h4, h⟩ := h
    obtain ⟨h5, h⟩ := h
    refine x_callS [vI x2] [vI x5, vI x4, vI x3, vI x2, vA 32] (dA D_X11_next 57 rfl) cw_RX11_235 rfl rfl (Nat.le_of_ble_eq_true rfl) hd1 (zk k) (zk n) (S_bitCount h4 h5 (by omega) ?_) (kI (fun _ _ h => h))
    show X G Y_X11_next d k n 112 [vA 0, vI x1, vI x2, vI x3, vI x4, vI x5] [vI (pop x2), vI x5, vI x4, vI x3, vI x2, vA 32] M Q
    refine x_callVN 8 [vI x2, vI x3, vI x4, vI x5, vI (pop x2)] [] (dA D_X11_next 58 rfl) cw_RX11_240 rfl rfl (Nat.le_of_ble_eq_true rfl) (by decide) rfl hd1 (zk k) (zk n) (sO_32 hS) h (kU (fun M6 h => ?_))
    obtain ⟨hM6, h⟩ := h
    refine x_aload_n (dA D_X11_next 59 rfl) rfl ?_
    refine x_get (v := vA 30) (dA D_X11_next 60 rfl) fw_RX11_70 (sO_0 hM6) (congrArg (rfV G) (sR_0_11 hM6)) ?_
    refine x_iload_n (dA D_X11_next 61 rfl) rfl ?_
    refine x_iload_n (dA D_X11_next 62 rfl) rfl ?_
    refine x_iload_n (dA D_X11_next 63 rfl) rfl ?_
    refine x_iload (dA D_X11_next 64 rfl) rfl ?_
    refine x_iload (dA D_X11_next 65 rfl) rfl ?_
    refine x_callV 2 [vI x1, vI x2, vI x3, vI x4, vI x5] [] (dA D_X11_next 66 rfl) cw_RX11_246 rfl rfl (Nat.le_of_ble_eq_true rfl) (by decide) rfl hd1 (zk k) (zk n) (sO_30 hM6) h (kI (fun r8 M7 h => ?_))
    obtain ⟨hM7, h⟩ := h
    exact x_ireturn (dA D_X11_next 67 rfl) rfl h
set_option maxRecDepth 100000 in
theorem B_X11_fixed_0 {G : GG} {d : Nat} {k n : Nat} {x1 : Int} {M : MM} {Q : PV → MM → Prop} (hd : 2 ≤ d) (hS : Sh M) (h : C G Y_X6_fix (d - 1) 0 0 [vA 39] M (rU (fun M1 => Sh M1 ∧ inR x1 ∧ inR (rd M1 30 4) ∧ ((((x1 < 0) ∨ ((rd M1 30 4) ≤ x1)) → Q (vI (-1)) M1) ∧ (¬ ((x1 < 0) ∨ ((rd M1 30 4) ≤ x1)) → 0 ≤ x1 ∧ x1 < 5 ∧ Q (vI (rd M1 31 x1)) M1))))) : X G Y_X11_fixed d k n 0 [vA 0, vI x1] [] M Q := by
  have hd1 : 1 ≤ d := by omega
  refine x_aload_n (dA D_X11_fixed 0 rfl) rfl ?_
  refine x_get (v := vA 39) (dA D_X11_fixed 1 rfl) fw_RX11_79 (sO_0 hS) (congrArg (rfV G) (sR_0_12 hS)) ?_
  refine x_callV 5 [] [] (dA D_X11_fixed 2 rfl) cw_RX11_213 rfl rfl (Nat.le_of_ble_eq_true rfl) (by decide) rfl hd1 (zk k) (zk n) (sO_39 hS) h (kU (fun M1 h => ?_))
  obtain ⟨hM1, h⟩ := h
  refine x_iload_n (dA D_X11_fixed 3 rfl) rfl ?_
  obtain ⟨h3, h⟩ := h
  obtain ⟨h9, h⟩ := h
  have hA : ((x1 < 0) ∨ ((rd M1 30 4) ≤ x1)) → X G Y_X11_fixed d k n 34 [vA 0, vI x1] [] M1 Q := by
    intro c17
    have h := h.1 c17
    refine x_iconst (dA D_X11_fixed 16 rfl) ?_
    exact x_ireturn (dA D_X11_fixed 17 rfl) rfl h
  have hB : ¬ ((x1 < 0) ∨ ((rd M1 30 4) ≤ x1)) → X G Y_X11_fixed d k n 22 [vA 0, vI x1] [] M1 Q := by
    intro c17
    have h := h.2 c17
    refine x_aload_n (dA D_X11_fixed 10 rfl) rfl ?_
    refine x_get (v := vA 30) (dA D_X11_fixed 11 rfl) fw_RX11_70 (sO_0 hM1) (congrArg (rfV G) (sR_0_11 hM1)) ?_
    refine x_get (v := vA 31) (dA D_X11_fixed 12 rfl) fw_RX11_253 (sO_30 hM1) (congrArg (rfV G) (sR_30_3 hM1)) ?_
    refine x_iload_n (dA D_X11_fixed 13 rfl) rfl ?_
    obtain ⟨h15, h⟩ := h
    obtain ⟨h16, h⟩ := h
    refine x_iald (dA D_X11_fixed 14 rfl) (sA_31 hM1 h15 h16) ?_
    refine x_goto (tgt := 35) (dA D_X11_fixed 15 rfl) (by decide) ?_
    exact x_ireturn (dA D_X11_fixed 17 rfl) rfl h
  refine x_if_ltP (tgt := 34) (dA D_X11_fixed 4 rfl) (by decide) h3 ⟨fun c2 => ?_, fun c2 => ?_⟩
  · exact hA (by first | omega | grind)
  · refine x_iload_n (dA D_X11_fixed 5 rfl) rfl ?_
    refine x_aload_n (dA D_X11_fixed 6 rfl) rfl ?_
    refine x_get (v := vA 30) (dA D_X11_fixed 7 rfl) fw_RX11_70 (sO_0 hM1) (congrArg (rfV G) (sR_0_11 hM1)) ?_
    refine x_get (v := vI (rd M1 30 4)) (dA D_X11_fixed 8 rfl) fw_RX11_250 (sO_30 hM1) rfl ?_
    refine x_icmp_geP (tgt := 34) (dA D_X11_fixed 9 rfl) (by decide) h3 h9 ⟨fun c8 => ?_, fun c8 => ?_⟩
    · exact hA (by first | omega | grind)
    · exact hB (by first | omega | grind)
theorem C_X11_fixed {G : GG} {d : Nat} {x1 : Int} {M : MM} {Q : PV → MM → Prop} (h : X G Y_X11_fixed d 0 0 0 [vA 0, vI x1] [] M Q) : C G Y_X11_fixed d 0 0 [vA 0, vI x1] M Q := X.entry (by decide) (Nat.le_of_ble_eq_true rfl) rfl rfl rfl h
set_option maxRecDepth 100000 in
theorem B_X11_rows_0 {G : GG} {d : Nat} {k n : Nat} {M : MM} {Q : PV → MM → Prop} (hd : 2 ≤ d) (hS : Sh M) (h : C G Y_X6_listed (d - 1) 0 0 [vA 39] M (rI (fun r2 M1 => Sh M1 ∧ Q (vI r2) M1))) : X G Y_X11_rows d k n 0 [vA 0] [] M Q := by
  have hd1 : 1 ≤ d := by omega
  refine x_aload_n (dA D_X11_rows 0 rfl) rfl ?_
  refine x_get (v := vA 39) (dA D_X11_rows 1 rfl) fw_RX11_79 (sO_0 hS) (congrArg (rfV G) (sR_0_12 hS)) ?_
  refine x_callV 5 [] [] (dA D_X11_rows 2 rfl) cw_RX11_256 rfl rfl (Nat.le_of_ble_eq_true rfl) (by decide) rfl hd1 (zk k) (zk n) (sO_39 hS) h (kI (fun r2 M1 h => ?_))
  obtain ⟨hM1, h⟩ := h
  exact x_ireturn (dA D_X11_rows 3 rfl) rfl h
theorem C_X11_rows {G : GG} {d : Nat} {M : MM} {Q : PV → MM → Prop} (h : X G Y_X11_rows d 0 0 0 [vA 0] [] M Q) : C G Y_X11_rows d 0 0 [vA 0] M Q := X.entry (by decide) (Nat.le_of_ble_eq_true rfl) rfl rfl rfl h
set_option maxRecDepth 100000 in
theorem B_X11_seeing_0 {G : GG} {d : Nat} {k n : Nat} {M : MM} {Q : PV → MM → Prop} (hd : 2 ≤ d) (hS : Sh M) (h : C G Y_X6_fix (d - 1) 0 0 [vA 39] M (rU (fun M1 => Sh M1 ∧ C G Y_X6_seeingGap (d - 1) 0 0 [vA 39] M1 (rI (fun r3 M2 => Sh M2 ∧ Q (vI r3) M2))))) : X G Y_X11_seeing d k n 0 [vA 0] [] M Q := by
  have hd1 : 1 ≤ d := by omega
  refine x_aload_n (dA D_X11_seeing 0 rfl) rfl ?_
  refine x_get (v := vA 39) (dA D_X11_seeing 1 rfl) fw_RX11_79 (sO_0 hS) (congrArg (rfV G) (sR_0_12 hS)) ?_
  refine x_callV 5 [] [] (dA D_X11_seeing 2 rfl) cw_RX11_213 rfl rfl (Nat.le_of_ble_eq_true rfl) (by decide) rfl hd1 (zk k) (zk n) (sO_39 hS) h (kU (fun M1 h => ?_))
  obtain ⟨hM1, h⟩ := h
  refine x_aload_n (dA D_X11_seeing 3 rfl) rfl ?_
  refine x_get (v := vA 39) (dA D_X11_seeing 4 rfl) fw_RX11_79 (sO_0 hM1) (congrArg (rfV G) (sR_0_12 hM1)) ?_
  refine x_callV 5 [] [] (dA D_X11_seeing 5 rfl) cw_RX11_260 rfl rfl (Nat.le_of_ble_eq_true rfl) (by decide) rfl hd1 (zk k) (zk n) (sO_39 hM1) h (kI (fun r3 M2 h => ?_))
  obtain ⟨hM2, h⟩ := h
  exact x_ireturn (dA D_X11_seeing 6 rfl) rfl h
theorem C_X11_seeing {G : GG} {d : Nat} {M : MM} {Q : PV → MM → Prop} (h : X G Y_X11_seeing d 0 0 0 [vA 0] [] M Q) : C G Y_X11_seeing d 0 0 [vA 0] M Q := X.entry (by decide) (Nat.le_of_ble_eq_true rfl) rfl rfl rfl h
set_option maxRecDepth 100000 in
theorem B_X11_loss_0 {G : GG} {d : Nat} {k n : Nat} {x1 : Int} {M : MM} {Q : PV → MM → Prop} (hd : 2 ≤ d) (hS : Sh M) (h : inR x1 ∧ ((¬ ((x1 = 0) ∨ (x1 = 1)) → Q (vI (-1)) M) ∧ ((x1 = 0) ∨ (x1 = 1) → 0 ≤ x1 ∧ x1 < 2 ∧ inR (rd M 5 x1) ∧ (((rd M 5 x1) ≠ 0 → C G Y_X6_lossGap (d - 1) 0 0 [vA 39, vI x1] M (rI (fun r6 M5 => Sh M5 ∧ Q (vI r6) M5))) ∧ ((rd M 5 x1) = 0 → Q (vI (-1)) M))))) : X G Y_X11_loss d k n 0 [vA 0, vI x1] [] M Q := by
  have hd1 : 1 ≤ d := by omega
  refine x_iload_n (dA D_X11_loss 0 rfl) rfl ?_
  obtain ⟨h1, h⟩ := h
  refine x_callS [vI x1] [] (dA D_X11_loss 1 rfl) cw_RX11_141 rfl rfl (Nat.le_of_ble_eq_true rfl) hd1 (zk k) (zk n) (S_X11_isSort h1 (by omega) ?_) (kI (fun _ _ h => h))
  show X G Y_X11_loss d k n 4 [vA 0, vI x1] [vI (if (x1 = 0) ∨ (x1 = 1) then 1 else 0)] M Q
  refine x_if_eqB (tgt := 19) (dA D_X11_loss 2 rfl) (by decide) ⟨fun c => ?_, fun c => ?_⟩
  · have h := h.1 c
    refine x_iconst (dA D_X11_loss 9 rfl) ?_
    exact x_ireturn (dA D_X11_loss 10 rfl) rfl h
  · have h := h.2 c
    refine x_aload_n (dA D_X11_loss 3 rfl) rfl ?_
    refine x_get (v := vA 1) (dA D_X11_loss 4 rfl) fw_RX11_12 (sO_0 hS) (congrArg (rfV G) (sR_0_0 hS)) ?_
    refine x_get (v := vA 5) (dA D_X11_loss 5 rfl) fw_RX11_144 (sO_1 hS) (congrArg (rfV G) (sR_1_4 hS)) ?_
    refine x_iload_n (dA D_X11_loss 6 rfl) rfl ?_
    obtain ⟨h2, h⟩ := h
    obtain ⟨h3, h⟩ := h
    refine x_iald (dA D_X11_loss 7 rfl) (sA_5 hS h2 h3) ?_
    obtain ⟨h4, h⟩ := h
    refine x_if_neP (tgt := 21) (dA D_X11_loss 8 rfl) (by decide) h4 ⟨fun c => ?_, fun c => ?_⟩
    · have h := h.1 c
      refine x_aload_n (dA D_X11_loss 11 rfl) rfl ?_
      refine x_get (v := vA 39) (dA D_X11_loss 12 rfl) fw_RX11_79 (sO_0 hS) (congrArg (rfV G) (sR_0_12 hS)) ?_
      refine x_iload_n (dA D_X11_loss 13 rfl) rfl ?_
      refine x_callV 5 [vI x1] [] (dA D_X11_loss 14 rfl) cw_RX11_263 rfl rfl (Nat.le_of_ble_eq_true rfl) (by decide) rfl hd1 (zk k) (zk n) (sO_39 hS) h (kI (fun r6 M5 h => ?_))
      obtain ⟨hM5, h⟩ := h
      exact x_ireturn (dA D_X11_loss 15 rfl) rfl h
    · have h := h.2 c
      refine x_iconst (dA D_X11_loss 9 rfl) ?_
      exact x_ireturn (dA D_X11_loss 10 rfl) rfl h
theorem C_X11_loss {G : GG} {d : Nat} {x1 : Int} {M : MM} {Q : PV → MM → Prop} (h : X G Y_X11_loss d 0 0 0 [vA 0, vI x1] [] M Q) : C G Y_X11_loss d 0 0 [vA 0, vI x1] M Q := X.entry (by decide) (Nat.le_of_ble_eq_true rfl) rfl rfl rfl h
set_option maxRecDepth 100000 in
theorem B_X11_evening_0 {G : GG} {d : Nat} {k n : Nat} {x1 : Int} {M : MM} {Q : PV → MM → Prop} (hd : 2 ≤ d) (hS : Sh M) (h : inR x1 ∧ (((x1 = 0) ∨ (x1 = 1) → C G Y_X6_tells (d - 1) 0 0 [vA 39, vI 4, vI (9 + x1)] M (rA (fun r3 M2 => Sh M2 ∧ C G Y_X2_above (d - 1) 0 0 [vA r3, vI 98] M2 (rI (fun r5 M4 => Sh M4 ∧ Q (vI r5) M4))))) ∧ (¬ ((x1 = 0) ∨ (x1 = 1)) → Q (vI (-1)) M))) : X G Y_X11_evening d k n 0 [vA 0, vI x1] [] M Q := by
  have hd1 : 1 ≤ d := by omega
  refine x_iload_n (dA D_X11_evening 0 rfl) rfl ?_
  obtain ⟨h1, h⟩ := h
  refine x_callS [vI x1] [] (dA D_X11_evening 1 rfl) cw_RX11_141 rfl rfl (Nat.le_of_ble_eq_true rfl) hd1 (zk k) (zk n) (S_X11_isSort h1 (by omega) ?_) (kI (fun _ _ h => h))
  show X G Y_X11_evening d k n 4 [vA 0, vI x1] [vI (if (x1 = 0) ∨ (x1 = 1) then 1 else 0)] M Q
  refine x_if_neB (tgt := 9) (dA D_X11_evening 2 rfl) (by decide) ⟨fun c => ?_, fun c => ?_⟩
  · have h := h.1 c
    refine x_aload_n (dA D_X11_evening 5 rfl) rfl ?_
    refine x_get (v := vA 39) (dA D_X11_evening 6 rfl) fw_RX11_79 (sO_0 hS) (congrArg (rfV G) (sR_0_12 hS)) ?_
    refine x_iconst (dA D_X11_evening 7 rfl) ?_
    refine x_bipush (dA D_X11_evening 8 rfl) (by decide) (by decide) ?_
    refine x_iload_n (dA D_X11_evening 9 rfl) rfl ?_
    refine x_iadd (dA D_X11_evening 10 rfl) ?_
    refine x_callV 5 [vI 4, vI (9 + x1)] [] (dA D_X11_evening 11 rfl) cw_RX11_216 rfl rfl (Nat.le_of_ble_eq_true rfl) (by decide) rfl hd1 (zk k) (zk n) (sO_39 hS) h (kA (fun r3 M2 h => ?_))
    obtain ⟨hM2, h⟩ := h
    refine x_bipush (dA D_X11_evening 12 rfl) (by decide) (by decide) ?_
    refine x_callS [vA r3, vI 98] [] (dA D_X11_evening 13 rfl) cw_RX11_219 rfl rfl (Nat.le_of_ble_eq_true rfl) hd1 (zk k) (zk n) h (kI (fun r5 M4 h => ?_))
    obtain ⟨hM4, h⟩ := h
    exact x_ireturn (dA D_X11_evening 14 rfl) rfl h
  · have h := h.2 c
    refine x_iconst (dA D_X11_evening 3 rfl) ?_
    exact x_ireturn (dA D_X11_evening 4 rfl) rfl h
theorem C_X11_evening {G : GG} {d : Nat} {x1 : Int} {M : MM} {Q : PV → MM → Prop} (h : X G Y_X11_evening d 0 0 0 [vA 0, vI x1] [] M Q) : C G Y_X11_evening d 0 0 [vA 0, vI x1] M Q := X.entry (by decide) (Nat.le_of_ble_eq_true rfl) rfl rfl rfl h
set_option maxRecDepth 100000 in
theorem B_X11_odds_0 {G : GG} {d : Nat} {k n : Nat} {x1 x2 : Int} {M : MM} {Q : PV → MM → Prop} (hd : 2 ≤ d) (hS : Sh M) (h : inR x1 ∧ ((¬ ((0 ≤ x1) ∧ (x1 ≤ 3)) → Q (vI (-1)) M) ∧ ((0 ≤ x1) ∧ (x1 ≤ 3) → inR x2 ∧ ((x2 < 0 → Q (vI (-1)) M) ∧ (0 ≤ x2 → ((x2 ≤ 7 → ((5 ≤ x2 → ((x1 ≠ 3 → X G Y_X11_odds d k n 49 [vA 0, vI x1, vI x2] [] M Q) ∧ (x1 = 3 → C G Y_X6_fix (d - 1) 0 0 [vA 39] M (rU (fun M3 => Sh M3 ∧ X G Y_X11_odds d k n 49 [vA 0, vI x1, vI x2] [] M3 Q))))) ∧ (x2 < 5 → inR (rd M 1 0) ∧ (((0 ≤ x2) ∧ (x2 < (rd M 1 0)) → ((x1 ≠ 3 → X G Y_X11_odds d k n 49 [vA 0, vI x1, vI x2] [] M Q) ∧ (x1 = 3 → C G Y_X6_fix (d - 1) 0 0 [vA 39] M (rU (fun M5 => Sh M5 ∧ X G Y_X11_odds d k n 49 [vA 0, vI x1, vI x2] [] M5 Q))))) ∧ (¬ ((0 ≤ x2) ∧ (x2 < (rd M 1 0))) → Q (vI (-1)) M))))) ∧ (7 < x2 → Q (vI (-1)) M))))))) : X G Y_X11_odds d k n 0 [vA 0, vI x1, vI x2] [] M Q := by
  have hd1 : 1 ≤ d := by omega
  refine x_iload_n (dA D_X11_odds 0 rfl) rfl ?_
  obtain ⟨h1, h⟩ := h
  refine x_callS [vI x1] [] (dA D_X11_odds 1 rfl) cw_RX11_210 rfl rfl (Nat.le_of_ble_eq_true rfl) hd1 (zk k) (zk n) (S_X11_isChooser h1 (by omega) ?_) (kI (fun _ _ h => h))
  show X G Y_X11_odds d k n 4 [vA 0, vI x1, vI x2] [vI (if (0 ≤ x1) ∧ (x1 ≤ 3) then 1 else 0)] M Q
  refine x_if_eqB (tgt := 17) (dA D_X11_odds 2 rfl) (by decide) ⟨fun c => ?_, fun c => ?_⟩
  · have h := h.1 c
    refine x_iconst (dA D_X11_odds 8 rfl) ?_
    exact x_ireturn (dA D_X11_odds 9 rfl) rfl h
  · have h := h.2 c
    refine x_iload_n (dA D_X11_odds 3 rfl) rfl ?_
    obtain ⟨h2, h⟩ := h
    refine x_if_ltP (tgt := 17) (dA D_X11_odds 4 rfl) (by decide) h2 ⟨fun c => ?_, fun c => ?_⟩
    · have h := h.1 c
      refine x_iconst (dA D_X11_odds 8 rfl) ?_
      exact x_ireturn (dA D_X11_odds 9 rfl) rfl h
    · have h := h.2 c
      refine x_iload_n (dA D_X11_odds 5 rfl) rfl ?_
      refine x_bipush (dA D_X11_odds 6 rfl) (by decide) (by decide) ?_
      refine x_icmp_leP (tgt := 19) (dA D_X11_odds 7 rfl) (by decide) h2 ⟨by decide, by decide⟩ ⟨fun c => ?_, fun c => ?_⟩
      · have h := h.1 c
        refine x_iload_n (dA D_X11_odds 10 rfl) rfl ?_
        refine x_iconst (dA D_X11_odds 11 rfl) ?_
        refine x_icmp_geP (tgt := 37) (dA D_X11_odds 12 rfl) (by decide) h2 ⟨by decide, by decide⟩ ⟨fun c => ?_, fun c => ?_⟩
        · have h := h.1 c
          refine x_iload_n (dA D_X11_odds 20 rfl) rfl ?_
          refine x_iconst (dA D_X11_odds 21 rfl) ?_
          refine x_icmp_neP (tgt := 49) (dA D_X11_odds 22 rfl) (by decide) h1 ⟨by decide, by decide⟩ ⟨fun c => ?_, fun c => ?_⟩
          · have h := h.1 c
            exact h
          · have h := h.2 c
            refine x_aload_n (dA D_X11_odds 23 rfl) rfl ?_
            refine x_get (v := vA 39) (dA D_X11_odds 24 rfl) fw_RX11_79 (sO_0 hS) (congrArg (rfV G) (sR_0_12 hS)) ?_
            refine x_callV 5 [] [] (dA D_X11_odds 25 rfl) cw_RX11_213 rfl rfl (Nat.le_of_ble_eq_true rfl) (by decide) rfl hd1 (zk k) (zk n) (sO_39 hS) h (kU (fun M3 h => ?_))
            obtain ⟨hM3, h⟩ := h
            exact h
        · have h := h.2 c
          refine x_aload_n (dA D_X11_odds 13 rfl) rfl ?_
          refine x_get (v := vA 1) (dA D_X11_odds 14 rfl) fw_RX11_12 (sO_0 hS) (congrArg (rfV G) (sR_0_0 hS)) ?_
          refine x_iload_n (dA D_X11_odds 15 rfl) rfl ?_
          obtain ⟨h4, h⟩ := h
          refine x_callV 3 [vI x2] [] (dA D_X11_odds 16 rfl) cw_RX11_128 rfl rfl (Nat.le_of_ble_eq_true rfl) (by decide) rfl hd1 (zk k) (zk n) (sO_1 hS) (S_X4_hasScene hS h2 h4 (by omega) ?_) (kI (fun _ _ h => h))
          show X G Y_X11_odds d k n 32 [vA 0, vI x1, vI x2] [vI (if (0 ≤ x2) ∧ (x2 < (rd M 1 0)) then 1 else 0)] M Q
          refine x_if_neB (tgt := 37) (dA D_X11_odds 17 rfl) (by decide) ⟨fun c => ?_, fun c => ?_⟩
          · have h := h.1 c
            refine x_iload_n (dA D_X11_odds 20 rfl) rfl ?_
            refine x_iconst (dA D_X11_odds 21 rfl) ?_
            refine x_icmp_neP (tgt := 49) (dA D_X11_odds 22 rfl) (by decide) h1 ⟨by decide, by decide⟩ ⟨fun c => ?_, fun c => ?_⟩
            · have h := h.1 c
              exact h
            · have h := h.2 c
              refine x_aload_n (dA D_X11_odds 23 rfl) rfl ?_
              refine x_get (v := vA 39) (dA D_X11_odds 24 rfl) fw_RX11_79 (sO_0 hS) (congrArg (rfV G) (sR_0_12 hS)) ?_
              refine x_callV 5 [] [] (dA D_X11_odds 25 rfl) cw_RX11_213 rfl rfl (Nat.le_of_ble_eq_true rfl) (by decide) rfl hd1 (zk k) (zk n) (sO_39 hS) h (kU (fun M5 h => ?_))
              obtain ⟨hM5, h⟩ := h
              exact h
          · have h := h.2 c
            refine x_iconst (dA D_X11_odds 18 rfl) ?_
            exact x_ireturn (dA D_X11_odds 19 rfl) rfl h
      · have h := h.2 c
        refine x_iconst (dA D_X11_odds 8 rfl) ?_
        exact x_ireturn (dA D_X11_odds 9 rfl) rfl h
theorem C_X11_odds {G : GG} {d : Nat} {x1 x2 : Int} {M : MM} {Q : PV → MM → Prop} (h : X G Y_X11_odds d 0 0 0 [vA 0, vI x1, vI x2] [] M Q) : C G Y_X11_odds d 0 0 [vA 0, vI x1, vI x2] M Q := X.entry (by decide) (Nat.le_of_ble_eq_true rfl) rfl rfl rfl h
set_option maxRecDepth 100000 in
theorem B_X11_odds_49 {G : GG} {d : Nat} {k n : Nat} {x1 x2 : Int} {M : MM} {Q : PV → MM → Prop} (hd : 2 ≤ d) (hS : Sh M) (h : C G Y_X6_tells (d - 1) 0 0 [vA 39, vI x1, vI x2] M (rA (fun r2 M1 => Sh M1 ∧ inR x2 ∧ C G Y_X2_above (d - 1) 0 0 [vA r2, vI (if x2 ≠ 7 then 94 else 98)] M1 (rI (fun r9 M8 => Sh M8 ∧ Q (vI r9) M8))))) : X G Y_X11_odds d k n 49 [vA 0, vI x1, vI x2] [] M Q := by
  have hd1 : 1 ≤ d := by omega
  refine x_aload_n (dA D_X11_odds 26 rfl) rfl ?_
  refine x_get (v := vA 39) (dA D_X11_odds 27 rfl) fw_RX11_79 (sO_0 hS) (congrArg (rfV G) (sR_0_12 hS)) ?_
  refine x_iload_n (dA D_X11_odds 28 rfl) rfl ?_
  refine x_iload_n (dA D_X11_odds 29 rfl) rfl ?_
  refine x_callV 5 [vI x1, vI x2] [] (dA D_X11_odds 30 rfl) cw_RX11_216 rfl rfl (Nat.le_of_ble_eq_true rfl) (by decide) rfl hd1 (zk k) (zk n) (sO_39 hS) h (kA (fun r2 M1 h => ?_))
  obtain ⟨hM1, h⟩ := h
  refine x_iload_n (dA D_X11_odds 31 rfl) rfl ?_
  refine x_bipush (dA D_X11_odds 32 rfl) (by decide) (by decide) ?_
  obtain ⟨h4, h⟩ := h
  have hJ : X G Y_X11_odds d k n 71 [vA 0, vI x1, vI x2] [vI (if x2 ≠ 7 then 94 else 98), vA r2] M1 Q := by
    refine x_callS [vA r2, vI (if x2 ≠ 7 then 94 else 98)] [] (dA D_X11_odds 37 rfl) cw_RX11_219 rfl rfl (Nat.le_of_ble_eq_true rfl) hd1 (zk k) (zk n) h (kI (fun r9 M8 h => ?_))
    obtain ⟨hM8, h⟩ := h
    exact x_ireturn (dA D_X11_odds 38 rfl) rfl h
  refine x_icmp_neP (tgt := 69) (dA D_X11_odds 33 rfl) (by decide) h4 ⟨by decide, by decide⟩ ⟨fun c3 => ?_, fun c3 => ?_⟩
  · refine x_bipush (dA D_X11_odds 36 rfl) (by decide) (by decide) ?_
    rw [if_pos c3] at hJ
    exact hJ
  · refine x_bipush (dA D_X11_odds 34 rfl) (by decide) (by decide) ?_
    refine x_goto (tgt := 71) (dA D_X11_odds 35 rfl) (by decide) ?_
    rw [if_neg (by first | omega | grind)] at hJ
    exact hJ
set_option maxRecDepth 100000 in
theorem B_X11_stayed_0 {G : GG} {d : Nat} {k n : Nat} {x1 x2 : Int} {r : Int → Int} {M : MM} {Q : PV → MM → Prop} (hd : 2 ≤ d) (hS : Sh M) (h : inR x2 ∧ ((((x2 < 0) ∨ (10 < x2)) → ∀ M10, M10 = refM M (-1 : Int) → Sh M10 → Q (vI (-1 : Int)) M10) ∧ (¬ ((x2 < 0) ∨ (10 < x2)) → inR x1 ∧ inR (rd M 1 0) ∧ (((0 ≤ x1) ∧ (x1 < (rd M 1 0)) → HR M r ∧ RS r ∧ ((r 5 ≠ -1 ∧ r 4 ≠ 5 ∧ x2 ≤ (if r 4 = 0 then r 5 else r (55 + (r 4 - 1))) ∧ inRow (fun i => r (50 + i)) x1 (r 4) = false → 0 ≤ (rd M 1 16) ∧ (rd M 1 16) < 5 ∧ ∀ M17, M17 = wr M 12 (rd M 1 16) x1 → Sh M17 → ∀ M18, M18 = wr M17 1 16 ((rd M17 1 16) + 1) → Sh M18 → 0 ≤ (rd M18 1 16) ∧ (rd M18 1 16) < 6 ∧ ∀ M21, M21 = wr M18 11 (rd M18 1 16) x2 → Sh M21 → ∀ M22, M22 = accM M21 → Sh M22 → Q (vI (rd M21 1 16)) M22) ∧ (¬ (r 5 ≠ -1 ∧ r 4 ≠ 5 ∧ x2 ≤ (if r 4 = 0 then r 5 else r (55 + (r 4 - 1))) ∧ inRow (fun i => r (50 + i)) x1 (r 4) = false) → ∀ M23, M23 = refM M (-3 : Int) → Sh M23 → Q (vI (-3 : Int)) M23))) ∧ (¬ ((0 ≤ x1) ∧ (x1 < (rd M 1 0))) → ∀ M24, M24 = refM M (-2 : Int) → Sh M24 → Q (vI (-2 : Int)) M24))))) : X G Y_X11_stayed d k n 0 [vA 0, vI x1, vI x2] [] M Q := by
  have hd1 : 1 ≤ d := by omega
  refine x_iload_n (dA D_X11_stayed 0 rfl) rfl ?_
  obtain ⟨h2, h⟩ := h
  have hA : ((x2 < 0) ∨ (10 < x2)) → X G Y_X11_stayed d k n 10 [vA 0, vI x1, vI x2] [] M Q := by
    intro c25
    have h := h.1 c25
    refine x_aload_n (dA D_X11_stayed 5 rfl) rfl ?_
    refine x_iconst (dA D_X11_stayed 6 rfl) ?_
    refine x_callV 10 [vI (-1)] [] (dA D_X11_stayed 7 rfl) cw_RX11_104 rfl rfl (Nat.le_of_ble_eq_true rfl) (by decide) rfl hd1 (zk k) (zk n) (sO_0 hS) (S_X11_refuse hS ⟨by decide, by decide, by decide, by decide⟩ (by omega) ?_) (kI (fun _ _ h => h))
    refine x_nmM (fun M10 eM10 => ?_)
    have hM10 : Sh M10 := eM10 ▸ (sRef hS)
    have h := h M10 eM10 hM10
    show X G Y_X11_stayed d k n 15 [vA 0, vI x1, vI x2] [vI (-1 : Int)] M10 Q
    exact x_ireturn (dA D_X11_stayed 8 rfl) rfl h
  have hB : ¬ ((x2 < 0) ∨ (10 < x2)) → X G Y_X11_stayed d k n 16 [vA 0, vI x1, vI x2] [] M Q := by
    intro c25
    have h := h.2 c25
    refine x_aload_n (dA D_X11_stayed 9 rfl) rfl ?_
    refine x_get (v := vA 1) (dA D_X11_stayed 10 rfl) fw_RX11_12 (sO_0 hS) (congrArg (rfV G) (sR_0_0 hS)) ?_
    refine x_iload_n (dA D_X11_stayed 11 rfl) rfl ?_
    obtain ⟨h11, h⟩ := h
    obtain ⟨h12, h⟩ := h
    refine x_callV 3 [vI x1] [] (dA D_X11_stayed 12 rfl) cw_RX11_128 rfl rfl (Nat.le_of_ble_eq_true rfl) (by decide) rfl hd1 (zk k) (zk n) (sO_1 hS) (S_X4_hasScene hS h11 h12 (by omega) ?_) (kI (fun _ _ h => h))
    show X G Y_X11_stayed d k n 24 [vA 0, vI x1, vI x2] [vI (if (0 ≤ x1) ∧ (x1 < (rd M 1 0)) then 1 else 0)] M Q
    refine x_if_neB (tgt := 34) (dA D_X11_stayed 13 rfl) (by decide) ⟨fun c => ?_, fun c => ?_⟩
    · have h := h.1 c
      refine x_aload_n (dA D_X11_stayed 18 rfl) rfl ?_
      refine x_get (v := vA 1) (dA D_X11_stayed 19 rfl) fw_RX11_12 (sO_0 hS) (congrArg (rfV G) (sR_0_0 hS)) ?_
      refine x_iload_n (dA D_X11_stayed 20 rfl) rfl ?_
      refine x_iload_n (dA D_X11_stayed 21 rfl) rfl ?_
      obtain ⟨h13, h⟩ := h
      obtain ⟨h14, h⟩ := h
      refine x_callV 3 [vI x1, vI x2] [] (dA D_X11_stayed 22 rfl) cw_RX11_276 rfl rfl (Nat.le_of_ble_eq_true rfl) (by decide) rfl hd1 (zk k) (zk n) (sO_1 hS) (S_X4_headsCould hS h13 h14 h11 h2 (by omega) ?_) (kI (fun _ _ h => h))
      show X G Y_X11_stayed d k n 43 [vA 0, vI x1, vI x2] [vI (if r 5 ≠ -1 ∧ r 4 ≠ 5 ∧ x2 ≤ (if r 4 = 0 then r 5 else r (55 + (r 4 - 1))) ∧ inRow (fun i => r (50 + i)) x1 (r 4) = false then 1 else 0)] M Q
      refine x_if_neB (tgt := 53) (dA D_X11_stayed 23 rfl) (by decide) ⟨fun c => ?_, fun c => ?_⟩
      · have h := h.1 c
        refine x_aload_n (dA D_X11_stayed 28 rfl) rfl ?_
        refine x_get (v := vA 1) (dA D_X11_stayed 29 rfl) fw_RX11_12 (sO_0 hS) (congrArg (rfV G) (sR_0_0 hS)) ?_
        refine x_get (v := vA 12) (dA D_X11_stayed 30 rfl) fw_RX11_279 (sO_1 hS) (congrArg (rfV G) (sR_1_15 hS)) ?_
        refine x_aload_n (dA D_X11_stayed 31 rfl) rfl ?_
        refine x_get (v := vA 1) (dA D_X11_stayed 32 rfl) fw_RX11_12 (sO_0 hS) (congrArg (rfV G) (sR_0_0 hS)) ?_
        refine x_get (v := vI (rd M 1 16)) (dA D_X11_stayed 33 rfl) fw_RX11_273 (sO_1 hS) rfl ?_
        refine x_iload_n (dA D_X11_stayed 34 rfl) rfl ?_
        obtain ⟨h15, h⟩ := h
        obtain ⟨h16, h⟩ := h
        refine x_iast (dA D_X11_stayed 35 rfl) (sA_12 hS h15 h16) ?_
        refine x_nmM (fun M17 eM17 => ?_)
        have hM17 : Sh M17 := eM17 ▸ (sW_12 hS)
        have h := h M17 eM17 hM17
        refine x_aload_n (dA D_X11_stayed 36 rfl) rfl ?_
        refine x_get (v := vA 1) (dA D_X11_stayed 37 rfl) fw_RX11_12 (sO_0 hM17) (congrArg (rfV G) (sR_0_0 hM17)) ?_
        refine x_dup (dA D_X11_stayed 38 rfl) rfl ?_
        refine x_get (v := vI (rd M17 1 16)) (dA D_X11_stayed 39 rfl) fw_RX11_273 (sO_1 hM17) rfl ?_
        refine x_iconst (dA D_X11_stayed 40 rfl) ?_
        refine x_iadd (dA D_X11_stayed 41 rfl) ?_
        refine x_put (x := (rd M17 1 16) + 1) (dA D_X11_stayed 42 rfl) fw_RX11_273 (fun _ _ hc => by cases hc; exact Or.inl rfl) (sO_1 hM17) rfl rfl rfl ?_
        refine x_nmM (fun M18 eM18 => ?_)
        have hM18 : Sh M18 := eM18 ▸ (sW_1_16 hM17)
        have h := h M18 eM18 hM18
        refine x_aload_n (dA D_X11_stayed 43 rfl) rfl ?_
        refine x_get (v := vA 1) (dA D_X11_stayed 44 rfl) fw_RX11_12 (sO_0 hM18) (congrArg (rfV G) (sR_0_0 hM18)) ?_
        refine x_get (v := vA 11) (dA D_X11_stayed 45 rfl) fw_RX11_270 (sO_1 hM18) (congrArg (rfV G) (sR_1_14 hM18)) ?_
        refine x_aload_n (dA D_X11_stayed 46 rfl) rfl ?_
        refine x_get (v := vA 1) (dA D_X11_stayed 47 rfl) fw_RX11_12 (sO_0 hM18) (congrArg (rfV G) (sR_0_0 hM18)) ?_
        refine x_get (v := vI (rd M18 1 16)) (dA D_X11_stayed 48 rfl) fw_RX11_273 (sO_1 hM18) rfl ?_
        refine x_iload_n (dA D_X11_stayed 49 rfl) rfl ?_
        obtain ⟨h19, h⟩ := h
        obtain ⟨h20, h⟩ := h
        refine x_iast (dA D_X11_stayed 50 rfl) (sA_11 hM18 h19 h20) ?_
        refine x_nmM (fun M21 eM21 => ?_)
        have hM21 : Sh M21 := eM21 ▸ (sW_11 hM18)
        have h := h M21 eM21 hM21
        refine x_aload_n (dA D_X11_stayed 51 rfl) rfl ?_
        refine x_aload_n (dA D_X11_stayed 52 rfl) rfl ?_
        refine x_get (v := vA 1) (dA D_X11_stayed 53 rfl) fw_RX11_12 (sO_0 hM21) (congrArg (rfV G) (sR_0_0 hM21)) ?_
        refine x_get (v := vI (rd M21 1 16)) (dA D_X11_stayed 54 rfl) fw_RX11_273 (sO_1 hM21) rfl ?_
        refine x_callV 10 [vI (rd M21 1 16)] [] (dA D_X11_stayed 55 rfl) cw_RX11_118 rfl rfl (Nat.le_of_ble_eq_true rfl) (by decide) rfl hd1 (zk k) (zk n) (sO_0 hM21) (S_X11_accept hM21  (by omega) ?_) (kI (fun _ _ h => h))
        refine x_nmM (fun M22 eM22 => ?_)
        have hM22 : Sh M22 := eM22 ▸ (sW_0_7 hM21)
        have h := h M22 eM22 hM22
        show X G Y_X11_stayed d k n 109 [vA 0, vI x1, vI x2] [vI (rd M21 1 16)] M22 Q
        exact x_ireturn (dA D_X11_stayed 56 rfl) rfl h
      · have h := h.2 c
        refine x_aload_n (dA D_X11_stayed 24 rfl) rfl ?_
        refine x_bipush (dA D_X11_stayed 25 rfl) (by decide) (by decide) ?_
        refine x_callV 10 [vI (-3)] [] (dA D_X11_stayed 26 rfl) cw_RX11_104 rfl rfl (Nat.le_of_ble_eq_true rfl) (by decide) rfl hd1 (zk k) (zk n) (sO_0 hS) (S_X11_refuse hS ⟨by decide, by decide, by decide, by decide⟩ (by omega) ?_) (kI (fun _ _ h => h))
        refine x_nmM (fun M23 eM23 => ?_)
        have hM23 : Sh M23 := eM23 ▸ (sRef hS)
        have h := h M23 eM23 hM23
        show X G Y_X11_stayed d k n 52 [vA 0, vI x1, vI x2] [vI (-3 : Int)] M23 Q
        exact x_ireturn (dA D_X11_stayed 27 rfl) rfl h
    · have h := h.2 c
      refine x_aload_n (dA D_X11_stayed 14 rfl) rfl ?_
      refine x_bipush (dA D_X11_stayed 15 rfl) (by decide) (by decide) ?_
      refine x_callV 10 [vI (-2)] [] (dA D_X11_stayed 16 rfl) cw_RX11_104 rfl rfl (Nat.le_of_ble_eq_true rfl) (by decide) rfl hd1 (zk k) (zk n) (sO_0 hS) (S_X11_refuse hS ⟨by decide, by decide, by decide, by decide⟩ (by omega) ?_) (kI (fun _ _ h => h))
      refine x_nmM (fun M24 eM24 => ?_)
      have hM24 : Sh M24 := eM24 ▸ (sRef hS)
      have h := h M24 eM24 hM24
      show X G Y_X11_stayed d k n 33 [vA 0, vI x1, vI x2] [vI (-2 : Int)] M24 Q
      exact x_ireturn (dA D_X11_stayed 17 rfl) rfl h
  refine x_if_ltP (tgt := 10) (dA D_X11_stayed 1 rfl) (by decide) h2 ⟨fun c1 => ?_, fun c1 => ?_⟩
  · exact hA (by first | omega | grind)
  · refine x_iload_n (dA D_X11_stayed 2 rfl) rfl ?_
    refine x_bipush (dA D_X11_stayed 3 rfl) (by decide) (by decide) ?_
    refine x_icmp_leP (tgt := 16) (dA D_X11_stayed 4 rfl) (by decide) h2 ⟨by decide, by decide⟩ ⟨fun c5 => ?_, fun c5 => ?_⟩
    · exact hB (by first | omega | grind)
    · exact hA (by first | omega | grind)
theorem C_X11_stayed {G : GG} {d : Nat} {x1 x2 : Int} {M : MM} {Q : PV → MM → Prop} (h : X G Y_X11_stayed d 0 0 0 [vA 0, vI x1, vI x2] [] M Q) : C G Y_X11_stayed d 0 0 [vA 0, vI x1, vI x2] M Q := X.entry (by decide) (Nat.le_of_ble_eq_true rfl) rfl rfl rfl h
set_option maxRecDepth 100000 in
theorem B_X11_were_0 {G : GG} {d : Nat} {k n : Nat} {x1 : Int} {M : MM} {Q : PV → MM → Prop} (hd : 2 ≤ d) (hS : Sh M) (h : inR x1 ∧ inR (rd M 1 13) ∧ ((((x1 < 0) ∨ ((5 < x1) ∨ ((rd M 1 13) = 0))) → Q (vI (-1)) M) ∧ (¬ ((x1 < 0) ∨ ((5 < x1) ∨ ((rd M 1 13) = 0))) → C G Y_X1_likely (d - 1) 0 0 [vA 51, vI x1] M (rI (fun r16 M15 => Sh M15 ∧ Q (vI r16) M15))))) : X G Y_X11_were d k n 0 [vA 0, vI x1] [] M Q := by
  have hd1 : 1 ≤ d := by omega
  refine x_iload_n (dA D_X11_were 0 rfl) rfl ?_
  obtain ⟨h2, h⟩ := h
  obtain ⟨h10, h⟩ := h
  have hA : ((x1 < 0) ∨ ((5 < x1) ∨ ((rd M 1 13) = 0))) → X G Y_X11_were d k n 19 [vA 0, vI x1] [] M Q := by
    intro c17
    have h := h.1 c17
    refine x_iconst (dA D_X11_were 9 rfl) ?_
    exact x_ireturn (dA D_X11_were 10 rfl) rfl h
  have hB : ¬ ((x1 < 0) ∨ ((5 < x1) ∨ ((rd M 1 13) = 0))) → X G Y_X11_were d k n 21 [vA 0, vI x1] [] M Q := by
    intro c17
    have h := h.2 c17
    refine x_aload_n (dA D_X11_were 11 rfl) rfl ?_
    refine x_get (v := vA 51) (dA D_X11_were 12 rfl) fw_RX11_86 (sO_0 hS) (congrArg (rfV G) (sR_0_13 hS)) ?_
    refine x_iload_n (dA D_X11_were 13 rfl) rfl ?_
    refine x_callV 1 [vI x1] [] (dA D_X11_were 14 rfl) cw_RX11_282 rfl rfl (Nat.le_of_ble_eq_true rfl) (by decide) rfl hd1 (zk k) (zk n) (sO_51 hS) h (kI (fun r16 M15 h => ?_))
    obtain ⟨hM15, h⟩ := h
    exact x_ireturn (dA D_X11_were 15 rfl) rfl h
  refine x_if_ltP (tgt := 19) (dA D_X11_were 1 rfl) (by decide) h2 ⟨fun c1 => ?_, fun c1 => ?_⟩
  · exact hA (by first | omega | grind)
  · refine x_iload_n (dA D_X11_were 2 rfl) rfl ?_
    refine x_iconst (dA D_X11_were 3 rfl) ?_
    refine x_icmp_gtP (tgt := 19) (dA D_X11_were 4 rfl) (by decide) h2 ⟨by decide, by decide⟩ ⟨fun c5 => ?_, fun c5 => ?_⟩
    · exact hA (by first | omega | grind)
    · refine x_aload_n (dA D_X11_were 5 rfl) rfl ?_
      refine x_get (v := vA 1) (dA D_X11_were 6 rfl) fw_RX11_12 (sO_0 hS) (congrArg (rfV G) (sR_0_0 hS)) ?_
      refine x_get (v := vI (rd M 1 13)) (dA D_X11_were 7 rfl) fw_RX11_266 (sO_1 hS) rfl ?_
      refine x_if_neP (tgt := 21) (dA D_X11_were 8 rfl) (by decide) h10 ⟨fun c9 => ?_, fun c9 => ?_⟩
      · exact hB (by first | omega | grind)
      · exact hA (by first | omega | grind)
theorem C_X11_were {G : GG} {d : Nat} {x1 : Int} {M : MM} {Q : PV → MM → Prop} (h : X G Y_X11_were d 0 0 0 [vA 0, vI x1] [] M Q) : C G Y_X11_were d 0 0 [vA 0, vI x1] M Q := X.entry (by decide) (Nat.le_of_ble_eq_true rfl) rfl rfl rfl h
set_option maxRecDepth 100000 in
theorem B_X11_run_0 {G : GG} {d : Nat} {k n : Nat} {x1 x2 : Int} {M : MM} {Q : PV → MM → Prop} (hd : 2 ≤ d) (hS : Sh M) (h : inR x1 ∧ inR x2 ∧ ((((¬ ((0 ≤ x1) ∧ (x1 ≤ 3))) ∨ (x2 < 0)) → ∀ M8, M8 = refM M (-1 : Int) → Sh M8 → Q (vI (-1 : Int)) M8) ∧ (¬ ((¬ ((0 ≤ x1) ∧ (x1 ≤ 3))) ∨ (x2 < 0)) → ((x2 ≤ 1000000 → ((x1 ≠ 3 → X G Y_X11_run d k n 36 [vA 0, vI x1, vI x2] [] M Q) ∧ (x1 = 3 → C G Y_X6_fix (d - 1) 0 0 [vA 39] M (rU (fun M9 => Sh M9 ∧ X G Y_X11_run d k n 36 [vA 0, vI x1, vI x2] [] M9 Q))))) ∧ (1000000 < x2 → ∀ M10, M10 = refM M (-1 : Int) → Sh M10 → Q (vI (-1 : Int)) M10))))) : X G Y_X11_run d k n 0 [vA 0, vI x1, vI x2] [] M Q := by
  have hd1 : 1 ≤ d := by omega
  refine x_iload_n (dA D_X11_run 0 rfl) rfl ?_
  obtain ⟨h1, h⟩ := h
  refine x_callS [vI x1] [] (dA D_X11_run 1 rfl) cw_RX11_210 rfl rfl (Nat.le_of_ble_eq_true rfl) hd1 (zk k) (zk n) (S_X11_isChooser h1 (by omega) ?_) (kI (fun _ _ h => h))
  show X G Y_X11_run d k n 4 [vA 0, vI x1, vI x2] [vI (if (0 ≤ x1) ∧ (x1 ≤ 3) then 1 else 0)] M Q
  obtain ⟨h5, h⟩ := h
  have hA : ((¬ ((0 ≤ x1) ∧ (x1 ≤ 3))) ∨ (x2 < 0)) → X G Y_X11_run d k n 18 [vA 0, vI x1, vI x2] [] M Q := by
    intro c11
    have h := h.1 c11
    refine x_aload_n (dA D_X11_run 8 rfl) rfl ?_
    refine x_iconst (dA D_X11_run 9 rfl) ?_
    refine x_callV 10 [vI (-1)] [] (dA D_X11_run 10 rfl) cw_RX11_104 rfl rfl (Nat.le_of_ble_eq_true rfl) (by decide) rfl hd1 (zk k) (zk n) (sO_0 hS) (S_X11_refuse hS ⟨by decide, by decide, by decide, by decide⟩ (by omega) ?_) (kI (fun _ _ h => h))
    refine x_nmM (fun M8 eM8 => ?_)
    have hM8 : Sh M8 := eM8 ▸ (sRef hS)
    have h := h M8 eM8 hM8
    show X G Y_X11_run d k n 23 [vA 0, vI x1, vI x2] [vI (-1 : Int)] M8 Q
    exact x_ireturn (dA D_X11_run 11 rfl) rfl h
  have hB : ¬ ((¬ ((0 ≤ x1) ∧ (x1 ≤ 3))) ∨ (x2 < 0)) → X G Y_X11_run d k n 11 [vA 0, vI x1, vI x2] [] M Q := by
    intro c11
    have h := h.2 c11
    refine x_iload_n (dA D_X11_run 5 rfl) rfl ?_
    refine x_ldcw (a := 1000000) (dA D_X11_run 6 rfl) ki_RX11_285 (by decide) ?_
    refine x_icmp_leP (tgt := 24) (dA D_X11_run 7 rfl) (by decide) h5 ⟨by decide, by decide⟩ ⟨fun c => ?_, fun c => ?_⟩
    · have h := h.1 c
      refine x_iload_n (dA D_X11_run 12 rfl) rfl ?_
      refine x_iconst (dA D_X11_run 13 rfl) ?_
      refine x_icmp_neP (tgt := 36) (dA D_X11_run 14 rfl) (by decide) h1 ⟨by decide, by decide⟩ ⟨fun c => ?_, fun c => ?_⟩
      · have h := h.1 c
        exact h
      · have h := h.2 c
        refine x_aload_n (dA D_X11_run 15 rfl) rfl ?_
        refine x_get (v := vA 39) (dA D_X11_run 16 rfl) fw_RX11_79 (sO_0 hS) (congrArg (rfV G) (sR_0_12 hS)) ?_
        refine x_callV 5 [] [] (dA D_X11_run 17 rfl) cw_RX11_213 rfl rfl (Nat.le_of_ble_eq_true rfl) (by decide) rfl hd1 (zk k) (zk n) (sO_39 hS) h (kU (fun M9 h => ?_))
        obtain ⟨hM9, h⟩ := h
        exact h
    · have h := h.2 c
      refine x_aload_n (dA D_X11_run 8 rfl) rfl ?_
      refine x_iconst (dA D_X11_run 9 rfl) ?_
      refine x_callV 10 [vI (-1)] [] (dA D_X11_run 10 rfl) cw_RX11_104 rfl rfl (Nat.le_of_ble_eq_true rfl) (by decide) rfl hd1 (zk k) (zk n) (sO_0 hS) (S_X11_refuse hS ⟨by decide, by decide, by decide, by decide⟩ (by omega) ?_) (kI (fun _ _ h => h))
      refine x_nmM (fun M10 eM10 => ?_)
      have hM10 : Sh M10 := eM10 ▸ (sRef hS)
      have h := h M10 eM10 hM10
      show X G Y_X11_run d k n 23 [vA 0, vI x1, vI x2] [vI (-1 : Int)] M10 Q
      exact x_ireturn (dA D_X11_run 11 rfl) rfl h
  refine x_if_eqB (tgt := 18) (dA D_X11_run 2 rfl) (by decide) ⟨fun c2 => ?_, fun c2 => ?_⟩
  · exact hA (by first | omega | grind)
  · refine x_iload_n (dA D_X11_run 3 rfl) rfl ?_
    refine x_if_ltP (tgt := 18) (dA D_X11_run 4 rfl) (by decide) h5 ⟨fun c4 => ?_, fun c4 => ?_⟩
    · exact hA (by first | omega | grind)
    · exact hB (by first | omega | grind)
theorem C_X11_run {G : GG} {d : Nat} {x1 x2 : Int} {M : MM} {Q : PV → MM → Prop} (h : X G Y_X11_run d 0 0 0 [vA 0, vI x1, vI x2] [] M Q) : C G Y_X11_run d 0 0 [vA 0, vI x1, vI x2] M Q := X.entry (by decide) (Nat.le_of_ble_eq_true rfl) rfl rfl rfl h
set_option maxRecDepth 100000 in
theorem B_X11_run_36 {G : GG} {d : Nat} {k n : Nat} {x1 x2 : Int} {M : MM} {Q : PV → MM → Prop} (hd : 2 ≤ d) (hS : Sh M) (h : inR x1 ∧ ((x1 ≠ 2 → X G Y_X11_run d k n 72 [vA 0, vI x1, vI x2] [] M Q) ∧ (x1 = 2 → C G Y_X9_settle (d - 1) 0 0 [vA 32, vI 0, vI (-1), vI (rd M 5 0), vI (rd M 5 1), vI 0] M (rU (fun M2 => Sh M2 ∧ X G Y_X11_run d k n 72 [vA 0, vI x1, vI x2] [] M2 Q))))) : X G Y_X11_run d k n 36 [vA 0, vI x1, vI x2] [] M Q := by
  have hd1 : 1 ≤ d := by omega
  refine x_iload_n (dA D_X11_run 18 rfl) rfl ?_
  refine x_iconst (dA D_X11_run 19 rfl) ?_
  obtain ⟨h1, h⟩ := h
  refine x_icmp_neP (tgt := 72) (dA D_X11_run 20 rfl) (by decide) h1 ⟨by decide, by decide⟩ ⟨fun c => ?_, fun c => ?_⟩
  · have h := h.1 c
    exact h
  · have h := h.2 c
    refine x_aload_n (dA D_X11_run 21 rfl) rfl ?_
    refine x_get (v := vA 30) (dA D_X11_run 22 rfl) fw_RX11_70 (sO_0 hS) (congrArg (rfV G) (sR_0_11 hS)) ?_
    refine x_get (v := vA 32) (dA D_X11_run 23 rfl) fw_RX11_231 (sO_30 hS) (congrArg (rfV G) (sR_30_2 hS)) ?_
    refine x_iconst (dA D_X11_run 24 rfl) ?_
    refine x_iconst (dA D_X11_run 25 rfl) ?_
    refine x_aload_n (dA D_X11_run 26 rfl) rfl ?_
    refine x_get (v := vA 1) (dA D_X11_run 27 rfl) fw_RX11_12 (sO_0 hS) (congrArg (rfV G) (sR_0_0 hS)) ?_
    refine x_get (v := vA 5) (dA D_X11_run 28 rfl) fw_RX11_144 (sO_1 hS) (congrArg (rfV G) (sR_1_4 hS)) ?_
    refine x_iconst (dA D_X11_run 29 rfl) ?_
    refine x_iald (dA D_X11_run 30 rfl) (sA_5 hS (by decide) (by decide)) ?_
    refine x_aload_n (dA D_X11_run 31 rfl) rfl ?_
    refine x_get (v := vA 1) (dA D_X11_run 32 rfl) fw_RX11_12 (sO_0 hS) (congrArg (rfV G) (sR_0_0 hS)) ?_
    refine x_get (v := vA 5) (dA D_X11_run 33 rfl) fw_RX11_144 (sO_1 hS) (congrArg (rfV G) (sR_1_4 hS)) ?_
    refine x_iconst (dA D_X11_run 34 rfl) ?_
    refine x_iald (dA D_X11_run 35 rfl) (sA_5 hS (by decide) (by decide)) ?_
    refine x_iconst (dA D_X11_run 36 rfl) ?_
    refine x_callVN 8 [vI 0, vI (-1), vI (rd M 5 0), vI (rd M 5 1), vI 0] [] (dA D_X11_run 37 rfl) cw_RX11_240 rfl rfl (Nat.le_of_ble_eq_true rfl) (by decide) rfl hd1 (zk k) (zk n) (sO_32 hS) h (kU (fun M2 h => ?_))
    obtain ⟨hM2, h⟩ := h
    exact h
set_option maxRecDepth 100000 in
theorem B_X11_run_72 {G : GG} {d : Nat} {k n : Nat} {x1 x2 : Int} {M : MM} {Q : PV → MM → Prop} (hd : 2 ≤ d) (hS : Sh M) (h : ∀ M1, M1 = wr M 59 3 x2 → Sh M1 → C G Y_X10_plays (d - 1) 0 0 [vA 59, vI x1, vI (rd M1 5 0), vI (rd M1 5 1)] M1 (rU (fun M2 => Sh M2 ∧ ∀ M3, M3 = accM M2 → Sh M3 → Q (vI (rd M2 59 7)) M3))) : X G Y_X11_run d k n 72 [vA 0, vI x1, vI x2] [] M Q := by
  have hd1 : 1 ≤ d := by omega
  refine x_aload_n (dA D_X11_run 38 rfl) rfl ?_
  refine x_get (v := vA 59) (dA D_X11_run 39 rfl) fw_RX11_93 (sO_0 hS) (congrArg (rfV G) (sR_0_14 hS)) ?_
  refine x_iload_n (dA D_X11_run 40 rfl) rfl ?_
  refine x_put (x := x2) (dA D_X11_run 41 rfl) fw_RX11_286 (fun _ _ hc => by cases hc; exact Or.inl rfl) (sO_59 hS) rfl rfl rfl ?_
  refine x_nmM (fun M1 eM1 => ?_)
  have hM1 : Sh M1 := eM1 ▸ (sW_59_3 hS)
  have h := h M1 eM1 hM1
  refine x_aload_n (dA D_X11_run 42 rfl) rfl ?_
  refine x_get (v := vA 59) (dA D_X11_run 43 rfl) fw_RX11_93 (sO_0 hM1) (congrArg (rfV G) (sR_0_14 hM1)) ?_
  refine x_iload_n (dA D_X11_run 44 rfl) rfl ?_
  refine x_aload_n (dA D_X11_run 45 rfl) rfl ?_
  refine x_get (v := vA 1) (dA D_X11_run 46 rfl) fw_RX11_12 (sO_0 hM1) (congrArg (rfV G) (sR_0_0 hM1)) ?_
  refine x_get (v := vA 5) (dA D_X11_run 47 rfl) fw_RX11_144 (sO_1 hM1) (congrArg (rfV G) (sR_1_4 hM1)) ?_
  refine x_iconst (dA D_X11_run 48 rfl) ?_
  refine x_iald (dA D_X11_run 49 rfl) (sA_5 hM1 (by decide) (by decide)) ?_
  refine x_aload_n (dA D_X11_run 50 rfl) rfl ?_
  refine x_get (v := vA 1) (dA D_X11_run 51 rfl) fw_RX11_12 (sO_0 hM1) (congrArg (rfV G) (sR_0_0 hM1)) ?_
  refine x_get (v := vA 5) (dA D_X11_run 52 rfl) fw_RX11_144 (sO_1 hM1) (congrArg (rfV G) (sR_1_4 hM1)) ?_
  refine x_iconst (dA D_X11_run 53 rfl) ?_
  refine x_iald (dA D_X11_run 54 rfl) (sA_5 hM1 (by decide) (by decide)) ?_
  refine x_callV 9 [vI x1, vI (rd M1 5 0), vI (rd M1 5 1)] [] (dA D_X11_run 55 rfl) cw_RX11_289 rfl rfl (Nat.le_of_ble_eq_true rfl) (by decide) rfl hd1 (zk k) (zk n) (sO_59 hM1) h (kU (fun M2 h => ?_))
  obtain ⟨hM2, h⟩ := h
  refine x_aload_n (dA D_X11_run 56 rfl) rfl ?_
  refine x_aload_n (dA D_X11_run 57 rfl) rfl ?_
  refine x_get (v := vA 59) (dA D_X11_run 58 rfl) fw_RX11_93 (sO_0 hM2) (congrArg (rfV G) (sR_0_14 hM2)) ?_
  refine x_get (v := vI (rd M2 59 7)) (dA D_X11_run 59 rfl) fw_RX11_292 (sO_59 hM2) rfl ?_
  refine x_callV 10 [vI (rd M2 59 7)] [] (dA D_X11_run 60 rfl) cw_RX11_118 rfl rfl (Nat.le_of_ble_eq_true rfl) (by decide) rfl hd1 (zk k) (zk n) (sO_0 hM2) (S_X11_accept hM2  (by omega) ?_) (kI (fun _ _ h => h))
  refine x_nmM (fun M3 eM3 => ?_)
  have hM3 : Sh M3 := eM3 ▸ (sW_0_7 hM2)
  have h := h M3 eM3 hM3
  show X G Y_X11_run d k n 117 [vA 0, vI x1, vI x2] [vI (rd M2 59 7)] M3 Q
  exact x_ireturn (dA D_X11_run 61 rfl) rfl h
set_option maxRecDepth 100000 in
theorem B_X11_ran_0 {G : GG} {d : Nat} {k n : Nat} {x1 x2 : Int} {M : MM} {Q : PV → MM → Prop} (hd : 1 ≤ d) (hS : Sh M) (h : inR x1 ∧ ((x1 < 0 → Q (vI (-1)) M) ∧ (0 ≤ x1 → inR (rd M 59 7) ∧ (((rd M 59 7) ≤ x1 → Q (vI (-1)) M) ∧ (x1 < (rd M 59 7) → inR x2 ∧ ((x2 < 0 → Q (vI (-1)) M) ∧ (0 ≤ x2 → ((x2 ≤ 2 → ∀ v19, v19 = (if x2 ≠ 0 then (if x2 ≠ 1 then 62 else 61) else 60) → okA M v19 20 x1 ∧ Q (vI (rd M v19 x1)) M) ∧ (2 < x2 → Q (vI (-1)) M))))))))) : X G Y_X11_ran d k n 0 [vA 0, vI x1, vI x2, vU] [] M Q := by
  have hd1 : 1 ≤ d := by omega
  refine x_iload_n (dA D_X11_ran 0 rfl) rfl ?_
  obtain ⟨h1, h⟩ := h
  refine x_if_ltP (tgt := 24) (dA D_X11_ran 1 rfl) (by decide) h1 ⟨fun c => ?_, fun c => ?_⟩
  · have h := h.1 c
    refine x_iconst (dA D_X11_ran 12 rfl) ?_
    exact x_ireturn (dA D_X11_ran 13 rfl) rfl h
  · have h := h.2 c
    refine x_iload_n (dA D_X11_ran 2 rfl) rfl ?_
    refine x_aload_n (dA D_X11_ran 3 rfl) rfl ?_
    refine x_get (v := vA 59) (dA D_X11_ran 4 rfl) fw_RX11_93 (sO_0 hS) (congrArg (rfV G) (sR_0_14 hS)) ?_
    refine x_get (v := vI (rd M 59 7)) (dA D_X11_ran 5 rfl) fw_RX11_292 (sO_59 hS) rfl ?_
    obtain ⟨h2, h⟩ := h
    refine x_icmp_geP (tgt := 24) (dA D_X11_ran 6 rfl) (by decide) h1 h2 ⟨fun c => ?_, fun c => ?_⟩
    · have h := h.1 c
      refine x_iconst (dA D_X11_ran 12 rfl) ?_
      exact x_ireturn (dA D_X11_ran 13 rfl) rfl h
    · have h := h.2 c
      refine x_iload_n (dA D_X11_ran 7 rfl) rfl ?_
      obtain ⟨h3, h⟩ := h
      refine x_if_ltP (tgt := 24) (dA D_X11_ran 8 rfl) (by decide) h3 ⟨fun c => ?_, fun c => ?_⟩
      · have h := h.1 c
        refine x_iconst (dA D_X11_ran 12 rfl) ?_
        exact x_ireturn (dA D_X11_ran 13 rfl) rfl h
      · have h := h.2 c
        refine x_iload_n (dA D_X11_ran 9 rfl) rfl ?_
        refine x_iconst (dA D_X11_ran 10 rfl) ?_
        refine x_icmp_leP (tgt := 26) (dA D_X11_ran 11 rfl) (by decide) h3 ⟨by decide, by decide⟩ ⟨fun c => ?_, fun c => ?_⟩
        · have h := h.1 c
          refine x_iload_n (dA D_X11_ran 14 rfl) rfl ?_
          have hJ : X G Y_X11_ran d k n 62 [vA 0, vI x1, vI x2, vU] [vA (if x2 ≠ 0 then (if x2 ≠ 1 then 62 else 61) else 60)] M Q := by
            refine x_nmA (fun v19 ev19 => ?_)
            have h := h v19 ev19
            refine x_astore_n (xs' := [vA 0, vI x1, vI x2, vA v19]) (dA D_X11_ran 30 rfl) (by decide) rfl ?_
            refine x_aload_n (dA D_X11_ran 31 rfl) rfl ?_
            refine x_iload_n (dA D_X11_ran 32 rfl) rfl ?_
            obtain ⟨h20, h⟩ := h
            refine x_iald (dA D_X11_ran 33 rfl) h20 ?_
            exact x_ireturn (dA D_X11_ran 34 rfl) rfl h
          refine x_if_neP (tgt := 40) (dA D_X11_ran 15 rfl) (by decide) h3 ⟨fun c4 => ?_, fun c4 => ?_⟩
          · refine x_iload_n (dA D_X11_ran 20 rfl) rfl ?_
            refine x_iconst (dA D_X11_ran 21 rfl) ?_
            refine x_icmp_neP (tgt := 55) (dA D_X11_ran 22 rfl) (by decide) h3 ⟨by decide, by decide⟩ ⟨fun c7 => ?_, fun c7 => ?_⟩
            · refine x_aload_n (dA D_X11_ran 27 rfl) rfl ?_
              refine x_get (v := vA 59) (dA D_X11_ran 28 rfl) fw_RX11_93 (sO_0 hS) (congrArg (rfV G) (sR_0_14 hS)) ?_
              refine x_get (v := vA 62) (dA D_X11_ran 29 rfl) fw_RX11_300 (sO_59 hS) (congrArg (rfV G) (sR_59_6 hS)) ?_
              rw [if_pos c4, if_pos c7] at hJ
              exact hJ
            · refine x_aload_n (dA D_X11_ran 23 rfl) rfl ?_
              refine x_get (v := vA 59) (dA D_X11_ran 24 rfl) fw_RX11_93 (sO_0 hS) (congrArg (rfV G) (sR_0_14 hS)) ?_
              refine x_get (v := vA 61) (dA D_X11_ran 25 rfl) fw_RX11_297 (sO_59 hS) (congrArg (rfV G) (sR_59_5 hS)) ?_
              refine x_goto (tgt := 62) (dA D_X11_ran 26 rfl) (by decide) ?_
              rw [if_pos c4, if_neg (by first | omega | grind)] at hJ
              exact hJ
          · refine x_aload_n (dA D_X11_ran 16 rfl) rfl ?_
            refine x_get (v := vA 59) (dA D_X11_ran 17 rfl) fw_RX11_93 (sO_0 hS) (congrArg (rfV G) (sR_0_14 hS)) ?_
            refine x_get (v := vA 60) (dA D_X11_ran 18 rfl) fw_RX11_295 (sO_59 hS) (congrArg (rfV G) (sR_59_4 hS)) ?_
            refine x_goto (tgt := 62) (dA D_X11_ran 19 rfl) (by decide) ?_
            rw [if_neg (by first | omega | grind)] at hJ
            exact hJ
        · have h := h.2 c
          refine x_iconst (dA D_X11_ran 12 rfl) ?_
          exact x_ireturn (dA D_X11_ran 13 rfl) rfl h
theorem C_X11_ran {G : GG} {d : Nat} {x1 x2 : Int} {M : MM} {Q : PV → MM → Prop} (h : X G Y_X11_ran d 0 0 0 [vA 0, vI x1, vI x2, vU] [] M Q) : C G Y_X11_ran d 0 0 [vA 0, vI x1, vI x2] M Q := X.entry (by decide) (Nat.le_of_ble_eq_true rfl) rfl rfl rfl h
set_option maxRecDepth 100000 in
theorem B_X11_nights_0 {G : GG} {d : Nat} {k n : Nat} {x1 x2 x3 x4 : Int} {M : MM} {Q : PV → MM → Prop} (hd : 2 ≤ d) (hS : Sh M) (h : inR x1 ∧ ((((x1 < 1) ∨ (60 < x1)) → Q (vI (-1)) M) ∧ (¬ ((x1 < 1) ∨ (60 < x1)) → inR x2 ∧ inR x3 ∧ ((((¬ ((0 ≤ x2) ∧ (x2 ≤ 3))) ∨ (x3 < 0)) → Q (vI (-1)) M) ∧ (¬ ((¬ ((0 ≤ x2) ∧ (x2 ≤ 3))) ∨ (x3 < 0)) → ((1000000 < x3 → Q (vI (-1)) M) ∧ (x3 ≤ 1000000 → inR x4 ∧ ((x4 < 0 → Q (vI (-1)) M) ∧ (0 ≤ x4 → ((x4 ≤ 2 → ((x2 ≠ 3 → X G Y_X11_nights d k n 54 [vA 0, vI x1, vI x2, vI x3, vI x4] [] M Q) ∧ (x2 = 3 → C G Y_X6_fix (d - 1) 0 0 [vA 39] M (rU (fun M16 => Sh M16 ∧ X G Y_X11_nights d k n 54 [vA 0, vI x1, vI x2, vI x3, vI x4] [] M16 Q))))) ∧ (2 < x4 → Q (vI (-1)) M))))))))))) : X G Y_X11_nights d k n 0 [vA 0, vI x1, vI x2, vI x3, vI x4] [] M Q := by
  have hd1 : 1 ≤ d := by omega
  refine x_iload_n (dA D_X11_nights 0 rfl) rfl ?_
  refine x_iconst (dA D_X11_nights 1 rfl) ?_
  obtain ⟨h2, h⟩ := h
  have hA : ((x1 < 1) ∨ (60 < x1)) → X G Y_X11_nights d k n 40 [vA 0, vI x1, vI x2, vI x3, vI x4] [] M Q := by
    intro c18
    have h := h.1 c18
    refine x_iconst (dA D_X11_nights 19 rfl) ?_
    exact x_ireturn (dA D_X11_nights 20 rfl) rfl h
  have hB : ¬ ((x1 < 1) ∨ (60 < x1)) → X G Y_X11_nights d k n 11 [vA 0, vI x1, vI x2, vI x3, vI x4] [] M Q := by
    intro c18
    have h := h.2 c18
    refine x_iload_n (dA D_X11_nights 6 rfl) rfl ?_
    obtain ⟨h8, h⟩ := h
    refine x_callS [vI x2] [] (dA D_X11_nights 7 rfl) cw_RX11_210 rfl rfl (Nat.le_of_ble_eq_true rfl) hd1 (zk k) (zk n) (S_X11_isChooser h8 (by omega) ?_) (kI (fun _ _ h => h))
    show X G Y_X11_nights d k n 15 [vA 0, vI x1, vI x2, vI x3, vI x4] [vI (if (0 ≤ x2) ∧ (x2 ≤ 3) then 1 else 0)] M Q
    obtain ⟨h12, h⟩ := h
    have hA : ((¬ ((0 ≤ x2) ∧ (x2 ≤ 3))) ∨ (x3 < 0)) → X G Y_X11_nights d k n 40 [vA 0, vI x1, vI x2, vI x3, vI x4] [] M Q := by
      intro c17
      have h := h.1 c17
      refine x_iconst (dA D_X11_nights 19 rfl) ?_
      exact x_ireturn (dA D_X11_nights 20 rfl) rfl h
    have hB : ¬ ((¬ ((0 ≤ x2) ∧ (x2 ≤ 3))) ∨ (x3 < 0)) → X G Y_X11_nights d k n 22 [vA 0, vI x1, vI x2, vI x3, vI x4] [] M Q := by
      intro c17
      have h := h.2 c17
      refine x_iload_n (dA D_X11_nights 11 rfl) rfl ?_
      refine x_ldcw (a := 1000000) (dA D_X11_nights 12 rfl) ki_RX11_285 (by decide) ?_
      refine x_icmp_gtP (tgt := 40) (dA D_X11_nights 13 rfl) (by decide) h12 ⟨by decide, by decide⟩ ⟨fun c => ?_, fun c => ?_⟩
      · have h := h.1 c
        refine x_iconst (dA D_X11_nights 19 rfl) ?_
        exact x_ireturn (dA D_X11_nights 20 rfl) rfl h
      · have h := h.2 c
        refine x_iload (dA D_X11_nights 14 rfl) rfl ?_
        obtain ⟨h15, h⟩ := h
        refine x_if_ltP (tgt := 40) (dA D_X11_nights 15 rfl) (by decide) h15 ⟨fun c => ?_, fun c => ?_⟩
        · have h := h.1 c
          refine x_iconst (dA D_X11_nights 19 rfl) ?_
          exact x_ireturn (dA D_X11_nights 20 rfl) rfl h
        · have h := h.2 c
          refine x_iload (dA D_X11_nights 16 rfl) rfl ?_
          refine x_iconst (dA D_X11_nights 17 rfl) ?_
          refine x_icmp_leP (tgt := 42) (dA D_X11_nights 18 rfl) (by decide) h15 ⟨by decide, by decide⟩ ⟨fun c => ?_, fun c => ?_⟩
          · have h := h.1 c
            refine x_iload_n (dA D_X11_nights 21 rfl) rfl ?_
            refine x_iconst (dA D_X11_nights 22 rfl) ?_
            refine x_icmp_neP (tgt := 54) (dA D_X11_nights 23 rfl) (by decide) h8 ⟨by decide, by decide⟩ ⟨fun c => ?_, fun c => ?_⟩
            · have h := h.1 c
              exact h
            · have h := h.2 c
              refine x_aload_n (dA D_X11_nights 24 rfl) rfl ?_
              refine x_get (v := vA 39) (dA D_X11_nights 25 rfl) fw_RX11_79 (sO_0 hS) (congrArg (rfV G) (sR_0_12 hS)) ?_
              refine x_callV 5 [] [] (dA D_X11_nights 26 rfl) cw_RX11_213 rfl rfl (Nat.le_of_ble_eq_true rfl) (by decide) rfl hd1 (zk k) (zk n) (sO_39 hS) h (kU (fun M16 h => ?_))
              obtain ⟨hM16, h⟩ := h
              exact h
          · have h := h.2 c
            refine x_iconst (dA D_X11_nights 19 rfl) ?_
            exact x_ireturn (dA D_X11_nights 20 rfl) rfl h
    refine x_if_eqB (tgt := 40) (dA D_X11_nights 8 rfl) (by decide) ⟨fun c9 => ?_, fun c9 => ?_⟩
    · exact hA (by first | omega | grind)
    · refine x_iload_n (dA D_X11_nights 9 rfl) rfl ?_
      refine x_if_ltP (tgt := 40) (dA D_X11_nights 10 rfl) (by decide) h12 ⟨fun c11 => ?_, fun c11 => ?_⟩
      · exact hA (by first | omega | grind)
      · exact hB (by first | omega | grind)
  refine x_icmp_ltP (tgt := 40) (dA D_X11_nights 2 rfl) (by decide) h2 ⟨by decide, by decide⟩ ⟨fun c1 => ?_, fun c1 => ?_⟩
  · exact hA (by first | omega | grind)
  · refine x_iload_n (dA D_X11_nights 3 rfl) rfl ?_
    refine x_bipush (dA D_X11_nights 4 rfl) (by decide) (by decide) ?_
    refine x_icmp_gtP (tgt := 40) (dA D_X11_nights 5 rfl) (by decide) h2 ⟨by decide, by decide⟩ ⟨fun c5 => ?_, fun c5 => ?_⟩
    · exact hA (by first | omega | grind)
    · exact hB (by first | omega | grind)
theorem C_X11_nights {G : GG} {d : Nat} {x1 x2 x3 x4 : Int} {M : MM} {Q : PV → MM → Prop} (h : X G Y_X11_nights d 0 0 0 [vA 0, vI x1, vI x2, vI x3, vI x4] [] M Q) : C G Y_X11_nights d 0 0 [vA 0, vI x1, vI x2, vI x3, vI x4] M Q := X.entry (by decide) (Nat.le_of_ble_eq_true rfl) rfl rfl rfl h
set_option maxRecDepth 100000 in
theorem B_X11_nights_54 {G : GG} {d : Nat} {k n : Nat} {x1 x2 x3 x4 : Int} {M : MM} {Q : PV → MM → Prop} (hd : 2 ≤ d) (hS : Sh M) (h : ∀ M1, M1 = wr M 63 3 x3 → Sh M1 → C G Y_X10_playsNights (d - 1) 0 0 [vA 63, vI x1, vI x2] M1 (rU (fun M2 => Sh M2 ∧ inR x4 ∧ Q (vI (if x4 ≠ 0 then (if x4 ≠ 1 then (rd M2 63 12) else (rd M2 63 11)) else (rd M2 63 10))) M2))) : X G Y_X11_nights d k n 54 [vA 0, vI x1, vI x2, vI x3, vI x4] [] M Q := by
  have hd1 : 1 ≤ d := by omega
  refine x_aload_n (dA D_X11_nights 27 rfl) rfl ?_
  refine x_get (v := vA 63) (dA D_X11_nights 28 rfl) fw_RX11_97 (sO_0 hS) (congrArg (rfV G) (sR_0_15 hS)) ?_
  refine x_iload_n (dA D_X11_nights 29 rfl) rfl ?_
  refine x_put (x := x3) (dA D_X11_nights 30 rfl) fw_RX11_286 (fun _ _ hc => by cases hc; exact Or.inl rfl) (sO_63 hS) rfl rfl rfl ?_
  refine x_nmM (fun M1 eM1 => ?_)
  have hM1 : Sh M1 := eM1 ▸ (sW_63_3 hS)
  have h := h M1 eM1 hM1
  refine x_aload_n (dA D_X11_nights 31 rfl) rfl ?_
  refine x_get (v := vA 63) (dA D_X11_nights 32 rfl) fw_RX11_97 (sO_0 hM1) (congrArg (rfV G) (sR_0_15 hM1)) ?_
  refine x_iload_n (dA D_X11_nights 33 rfl) rfl ?_
  refine x_iload_n (dA D_X11_nights 34 rfl) rfl ?_
  refine x_callV 9 [vI x1, vI x2] [] (dA D_X11_nights 35 rfl) cw_RX11_303 rfl rfl (Nat.le_of_ble_eq_true rfl) (by decide) rfl hd1 (zk k) (zk n) (sO_63 hM1) h (kU (fun M2 h => ?_))
  obtain ⟨hM2, h⟩ := h
  refine x_iload (dA D_X11_nights 36 rfl) rfl ?_
  obtain ⟨h4, h⟩ := h
  have hJ : X G Y_X11_nights d k n 109 [vA 0, vI x1, vI x2, vI x3, vI x4] [vI (if x4 ≠ 0 then (if x4 ≠ 1 then (rd M2 63 12) else (rd M2 63 11)) else (rd M2 63 10))] M2 Q := by
    exact x_ireturn (dA D_X11_nights 52 rfl) rfl h
  refine x_if_neP (tgt := 86) (dA D_X11_nights 37 rfl) (by decide) h4 ⟨fun c3 => ?_, fun c3 => ?_⟩
  · refine x_iload (dA D_X11_nights 42 rfl) rfl ?_
    refine x_iconst (dA D_X11_nights 43 rfl) ?_
    refine x_icmp_neP (tgt := 102) (dA D_X11_nights 44 rfl) (by decide) h4 ⟨by decide, by decide⟩ ⟨fun c7 => ?_, fun c7 => ?_⟩
    · refine x_aload_n (dA D_X11_nights 49 rfl) rfl ?_
      refine x_get (v := vA 63) (dA D_X11_nights 50 rfl) fw_RX11_97 (sO_0 hM2) (congrArg (rfV G) (sR_0_15 hM2)) ?_
      refine x_get (v := vI (rd M2 63 12)) (dA D_X11_nights 51 rfl) fw_RX11_313 (sO_63 hM2) rfl ?_
      rw [if_pos c3, if_pos c7] at hJ
      exact hJ
    · refine x_aload_n (dA D_X11_nights 45 rfl) rfl ?_
      refine x_get (v := vA 63) (dA D_X11_nights 46 rfl) fw_RX11_97 (sO_0 hM2) (congrArg (rfV G) (sR_0_15 hM2)) ?_
      refine x_get (v := vI (rd M2 63 11)) (dA D_X11_nights 47 rfl) fw_RX11_310 (sO_63 hM2) rfl ?_
      refine x_goto (tgt := 109) (dA D_X11_nights 48 rfl) (by decide) ?_
      rw [if_pos c3, if_neg (by first | omega | grind)] at hJ
      exact hJ
  · refine x_aload_n (dA D_X11_nights 38 rfl) rfl ?_
    refine x_get (v := vA 63) (dA D_X11_nights 39 rfl) fw_RX11_97 (sO_0 hM2) (congrArg (rfV G) (sR_0_15 hM2)) ?_
    refine x_get (v := vI (rd M2 63 10)) (dA D_X11_nights 40 rfl) fw_RX11_307 (sO_63 hM2) rfl ?_
    refine x_goto (tgt := 109) (dA D_X11_nights 41 rfl) (by decide) ?_
    rw [if_neg (by first | omega | grind)] at hJ
    exact hJ
set_option maxRecDepth 100000 in
theorem B_X11_image_0 {G : GG} {d : Nat} {x1 : Int} {M : MM} {Q : PV → MM → Prop} (hd : 2 ≤ d) (hS : Sh M) (h : inR x1 ∧ ((((x1 < 0) ∨ (1 < x1)) → ∀ M10, M10 = refM M (-1 : Int) → Sh M10 → Q (vI (-1 : Int)) M10) ∧ (¬ ((x1 < 0) ∨ (1 < x1)) → 0 ≤ x1 ∧ x1 < 2 ∧ ((¬ (rd M 13 x1) = -1 → okO M (rd M 13 x1) 3 ∧ C G Y_X4_becomes (d - 1) 0 0 [vA (rd M 13 x1), vA 1] M (rU (fun M14 => Sh M14 ∧ ∀ M15, M15 = accM M14 → Sh M15 → Q (vI (0 : Int)) M15))) ∧ (¬ ¬ (rd M 13 x1) = -1 → ∀ M16, M16 = al M 3 (kN 3) (fun j => dV (fT 3 j.toNat)) → Sh M16 → 0 ≤ (mN M) ∧ C G Y_X4_init (d - 1) 11 46 [vA (mN M)] M16 (rU (fun M18 => Sh M18 ∧ okO M18 (mN M) 3 ∧ ∀ M19, M19 = wr M18 13 x1 (mN M) → Sh M19 → okO M19 (rd M19 13 x1) 3 ∧ C G Y_X4_becomes (d - 1) 0 0 [vA (rd M19 13 x1), vA 1] M19 (rU (fun M22 => Sh M22 ∧ ∀ M23, M23 = accM M22 → Sh M23 → Q (vI (0 : Int)) M23))))))))) : X G Y_X11_image d 12 63 0 [vA 0, vI x1] [] M Q := by
  have hd1 : 1 ≤ d := by omega
  refine x_iload_n (dA D_X11_image 0 rfl) rfl ?_
  obtain ⟨h2, h⟩ := h
  have hA : ((x1 < 0) ∨ (1 < x1)) → X G Y_X11_image d 12 63 9 [vA 0, vI x1] [] M Q := by
    intro c24
    have h := h.1 c24
    refine x_aload_n (dA D_X11_image 5 rfl) rfl ?_
    refine x_iconst (dA D_X11_image 6 rfl) ?_
    refine x_callV 10 [vI (-1)] [] (dA D_X11_image 7 rfl) cw_RX11_104 rfl rfl (Nat.le_of_ble_eq_true rfl) (by decide) rfl hd1 (k := 12) (n := 63) (by decide) (by decide) (sO_0 hS) (S_X11_refuse hS ⟨by decide, by decide, by decide, by decide⟩ (by omega) ?_) (kI (fun _ _ h => h))
    refine x_nmM (fun M10 eM10 => ?_)
    have hM10 : Sh M10 := eM10 ▸ (sRef hS)
    have h := h M10 eM10 hM10
    show X G Y_X11_image d 12 63 14 [vA 0, vI x1] [vI (-1 : Int)] M10 Q
    exact x_ireturn (dA D_X11_image 8 rfl) rfl h
  have hB : ¬ ((x1 < 0) ∨ (1 < x1)) → X G Y_X11_image d 12 63 15 [vA 0, vI x1] [] M Q := by
    intro c24
    have h := h.2 c24
    refine x_aload_n (dA D_X11_image 9 rfl) rfl ?_
    refine x_get (v := vA 13) (dA D_X11_image 10 rfl) fw_RX11_16 (sO_0 hS) (congrArg (rfV G) (sR_0_1 hS)) ?_
    refine x_iload_n (dA D_X11_image 11 rfl) rfl ?_
    obtain ⟨h11, h⟩ := h
    obtain ⟨h12, h⟩ := h
    refine x_aald 23 (by decide) (dA D_X11_image 12 rfl) (sA_13 hS h11 h12) ?_
    refine x_ifnonnull (tgt := 37) (dA D_X11_image 13 rfl) (by decide) ⟨fun c => ?_, fun c => ?_⟩
    · have h := h.1 c
      refine x_aload_n (dA D_X11_image 21 rfl) rfl ?_
      refine x_get (v := vA 13) (dA D_X11_image 22 rfl) fw_RX11_16 (sO_0 hS) (congrArg (rfV G) (sR_0_1 hS)) ?_
      refine x_iload_n (dA D_X11_image 23 rfl) rfl ?_
      refine x_aald 23 (by decide) (dA D_X11_image 24 rfl) (sA_13 hS h11 h12) ?_
      refine x_aload_n (dA D_X11_image 25 rfl) rfl ?_
      refine x_get (v := vA 1) (dA D_X11_image 26 rfl) fw_RX11_12 (sO_0 hS) (congrArg (rfV G) (sR_0_0 hS)) ?_
      obtain ⟨h13, h⟩ := h
      refine x_callV 3 [vA 1] [] (dA D_X11_image 27 rfl) cw_RX11_316 rfl rfl (Nat.le_of_ble_eq_true rfl) (by decide) rfl hd1 (k := 0) (n := 0) (by decide) (by decide) h13 h (kU (fun M14 h => ?_))
      obtain ⟨hM14, h⟩ := h
      refine x_aload_n (dA D_X11_image 28 rfl) rfl ?_
      refine x_iconst (dA D_X11_image 29 rfl) ?_
      refine x_callV 10 [vI 0] [] (dA D_X11_image 30 rfl) cw_RX11_118 rfl rfl (Nat.le_of_ble_eq_true rfl) (by decide) rfl hd1 (k := 0) (n := 0) (by decide) (by decide) (sO_0 hM14) (S_X11_accept hM14  (by omega) ?_) (kI (fun _ _ h => h))
      refine x_nmM (fun M15 eM15 => ?_)
      have hM15 : Sh M15 := eM15 ▸ (sW_0_7 hM14)
      have h := h M15 eM15 hM15
      show X G Y_X11_image d 0 0 55 [vA 0, vI x1] [vI (0 : Int)] M15 Q
      exact x_ireturn (dA D_X11_image 31 rfl) rfl h
    · have h := h.2 c
      refine x_aload_n (dA D_X11_image 14 rfl) rfl ?_
      refine x_get (v := vA 13) (dA D_X11_image 15 rfl) fw_RX11_16 (sO_0 hS) (congrArg (rfV G) (sR_0_1 hS)) ?_
      refine x_iload_n (dA D_X11_image 16 rfl) rfl ?_
      refine x_new (k := 11) (n := 46) (dA D_X11_image 17 rfl) nw_RX11_9 (by decide) ?_
      refine x_nmM (fun M16 eM16 => ?_)
      have hM16 : Sh M16 := eM16 ▸ (sAl hS)
      have h := h M16 eM16 hM16
      refine x_dup (dA D_X11_image 18 rfl) rfl ?_
      obtain ⟨h17, h⟩ := h
      refine x_callIN [] [vA (mN M), vI x1, vA 13] (dA D_X11_image 19 rfl) cw_RX11_11 rfl rfl (Nat.le_of_ble_eq_true rfl) hd1 (k := 0) (n := 0) (by decide) (by decide) h17 h (kU (fun M18 h => ?_))
      obtain ⟨hM18, h⟩ := h
      obtain ⟨h20, h⟩ := h
      refine x_aast 23 3 (by decide) (dA D_X11_image 20 rfl) (sA_13 hM18 h11 h12) h20 ?_
      refine x_nmM (fun M19 eM19 => ?_)
      have hM19 : Sh M19 := eM19 ▸ (sW_13 hM18)
      have h := h M19 eM19 hM19
      refine x_aload_n (dA D_X11_image 21 rfl) rfl ?_
      refine x_get (v := vA 13) (dA D_X11_image 22 rfl) fw_RX11_16 (sO_0 hM19) (congrArg (rfV G) (sR_0_1 hM19)) ?_
      refine x_iload_n (dA D_X11_image 23 rfl) rfl ?_
      refine x_aald 23 (by decide) (dA D_X11_image 24 rfl) (sA_13 hM19 h11 h12) ?_
      refine x_aload_n (dA D_X11_image 25 rfl) rfl ?_
      refine x_get (v := vA 1) (dA D_X11_image 26 rfl) fw_RX11_12 (sO_0 hM19) (congrArg (rfV G) (sR_0_0 hM19)) ?_
      obtain ⟨h21, h⟩ := h
      refine x_callV 3 [vA 1] [] (dA D_X11_image 27 rfl) cw_RX11_316 rfl rfl (Nat.le_of_ble_eq_true rfl) (by decide) rfl hd1 (k := 0) (n := 0) (by decide) (by decide) h21 h (kU (fun M22 h => ?_))
      obtain ⟨hM22, h⟩ := h
      refine x_aload_n (dA D_X11_image 28 rfl) rfl ?_
      refine x_iconst (dA D_X11_image 29 rfl) ?_
      refine x_callV 10 [vI 0] [] (dA D_X11_image 30 rfl) cw_RX11_118 rfl rfl (Nat.le_of_ble_eq_true rfl) (by decide) rfl hd1 (k := 0) (n := 0) (by decide) (by decide) (sO_0 hM22) (S_X11_accept hM22  (by omega) ?_) (kI (fun _ _ h => h))
      refine x_nmM (fun M23 eM23 => ?_)
      have hM23 : Sh M23 := eM23 ▸ (sW_0_7 hM22)
      have h := h M23 eM23 hM23
      show X G Y_X11_image d 0 0 55 [vA 0, vI x1] [vI (0 : Int)] M23 Q
      exact x_ireturn (dA D_X11_image 31 rfl) rfl h
  refine x_if_ltP (tgt := 9) (dA D_X11_image 1 rfl) (by decide) h2 ⟨fun c1 => ?_, fun c1 => ?_⟩
  · exact X.wide (Nat.le_of_ble_eq_true rfl) (Nat.le_of_ble_eq_true rfl) (hA (by first | omega | grind))
  · refine x_iload_n (dA D_X11_image 2 rfl) rfl ?_
    refine x_iconst (dA D_X11_image 3 rfl) ?_
    refine x_icmp_leP (tgt := 15) (dA D_X11_image 4 rfl) (by decide) h2 ⟨by decide, by decide⟩ ⟨fun c5 => ?_, fun c5 => ?_⟩
    · exact X.wide (Nat.le_of_ble_eq_true rfl) (Nat.le_of_ble_eq_true rfl) (hB (by first | omega | grind))
    · exact X.wide (Nat.le_of_ble_eq_true rfl) (Nat.le_of_ble_eq_true rfl) (hA (by first | omega | grind))
theorem C_X11_image {G : GG} {d : Nat} {x1 : Int} {M : MM} {Q : PV → MM → Prop} (h : X G Y_X11_image d 12 63 0 [vA 0, vI x1] [] M Q) : C G Y_X11_image d 12 63 [vA 0, vI x1] M Q := X.entry (by decide) (Nat.le_of_ble_eq_true rfl) rfl rfl rfl h
set_option maxRecDepth 100000 in
theorem B_X11_back_0 {G : GG} {d : Nat} {k n : Nat} {x1 : Int} {M : MM} {Q : PV → MM → Prop} (hd : 2 ≤ d) (hS : Sh M) (h : inR x1 ∧ ((((x1 < 0) ∨ (1 < x1)) → ∀ M10, M10 = refM M (-1 : Int) → Sh M10 → Q (vI (-1 : Int)) M10) ∧ (¬ ((x1 < 0) ∨ (1 < x1)) → 0 ≤ x1 ∧ x1 < 2 ∧ ((¬ (rd M 13 x1) = -1 → C G Y_X4_becomes (d - 1) 0 0 [vA 1, vA (rd M 13 x1)] M (rU (fun M13 => Sh M13 ∧ C G Y_X6_lawsChanged (d - 1) 0 0 [vA 39] M13 (rU (fun M14 => Sh M14 ∧ ∀ M15, M15 = accM M14 → Sh M15 → Q (vI (0 : Int)) M15))))) ∧ (¬ ¬ (rd M 13 x1) = -1 → ∀ M16, M16 = refM M (-2 : Int) → Sh M16 → Q (vI (-2 : Int)) M16))))) : X G Y_X11_back d k n 0 [vA 0, vI x1] [] M Q := by
  have hd1 : 1 ≤ d := by omega
  refine x_iload_n (dA D_X11_back 0 rfl) rfl ?_
  obtain ⟨h2, h⟩ := h
  have hA : ((x1 < 0) ∨ (1 < x1)) → X G Y_X11_back d k n 9 [vA 0, vI x1] [] M Q := by
    intro c17
    have h := h.1 c17
    refine x_aload_n (dA D_X11_back 5 rfl) rfl ?_
    refine x_iconst (dA D_X11_back 6 rfl) ?_
    refine x_callV 10 [vI (-1)] [] (dA D_X11_back 7 rfl) cw_RX11_104 rfl rfl (Nat.le_of_ble_eq_true rfl) (by decide) rfl hd1 (zk k) (zk n) (sO_0 hS) (S_X11_refuse hS ⟨by decide, by decide, by decide, by decide⟩ (by omega) ?_) (kI (fun _ _ h => h))
    refine x_nmM (fun M10 eM10 => ?_)
    have hM10 : Sh M10 := eM10 ▸ (sRef hS)
    have h := h M10 eM10 hM10
    show X G Y_X11_back d k n 14 [vA 0, vI x1] [vI (-1 : Int)] M10 Q
    exact x_ireturn (dA D_X11_back 8 rfl) rfl h
  have hB : ¬ ((x1 < 0) ∨ (1 < x1)) → X G Y_X11_back d k n 15 [vA 0, vI x1] [] M Q := by
    intro c17
    have h := h.2 c17
    refine x_aload_n (dA D_X11_back 9 rfl) rfl ?_
    refine x_get (v := vA 13) (dA D_X11_back 10 rfl) fw_RX11_16 (sO_0 hS) (congrArg (rfV G) (sR_0_1 hS)) ?_
    refine x_iload_n (dA D_X11_back 11 rfl) rfl ?_
    obtain ⟨h11, h⟩ := h
    obtain ⟨h12, h⟩ := h
    refine x_aald 23 (by decide) (dA D_X11_back 12 rfl) (sA_13 hS h11 h12) ?_
    refine x_ifnonnull (tgt := 31) (dA D_X11_back 13 rfl) (by decide) ⟨fun c => ?_, fun c => ?_⟩
    · have h := h.1 c
      refine x_aload_n (dA D_X11_back 18 rfl) rfl ?_
      refine x_get (v := vA 1) (dA D_X11_back 19 rfl) fw_RX11_12 (sO_0 hS) (congrArg (rfV G) (sR_0_0 hS)) ?_
      refine x_aload_n (dA D_X11_back 20 rfl) rfl ?_
      refine x_get (v := vA 13) (dA D_X11_back 21 rfl) fw_RX11_16 (sO_0 hS) (congrArg (rfV G) (sR_0_1 hS)) ?_
      refine x_iload_n (dA D_X11_back 22 rfl) rfl ?_
      refine x_aald 23 (by decide) (dA D_X11_back 23 rfl) (sA_13 hS h11 h12) ?_
      refine x_callV 3 [vA (rd M 13 x1)] [] (dA D_X11_back 24 rfl) cw_RX11_316 rfl rfl (Nat.le_of_ble_eq_true rfl) (by decide) rfl hd1 (zk k) (zk n) (sO_1 hS) h (kU (fun M13 h => ?_))
      obtain ⟨hM13, h⟩ := h
      refine x_aload_n (dA D_X11_back 25 rfl) rfl ?_
      refine x_get (v := vA 39) (dA D_X11_back 26 rfl) fw_RX11_79 (sO_0 hM13) (congrArg (rfV G) (sR_0_12 hM13)) ?_
      refine x_callV 5 [] [] (dA D_X11_back 27 rfl) cw_RX11_115 rfl rfl (Nat.le_of_ble_eq_true rfl) (by decide) rfl hd1 (zk k) (zk n) (sO_39 hM13) h (kU (fun M14 h => ?_))
      obtain ⟨hM14, h⟩ := h
      refine x_aload_n (dA D_X11_back 28 rfl) rfl ?_
      refine x_iconst (dA D_X11_back 29 rfl) ?_
      refine x_callV 10 [vI 0] [] (dA D_X11_back 30 rfl) cw_RX11_118 rfl rfl (Nat.le_of_ble_eq_true rfl) (by decide) rfl hd1 (zk k) (zk n) (sO_0 hM14) (S_X11_accept hM14  (by omega) ?_) (kI (fun _ _ h => h))
      refine x_nmM (fun M15 eM15 => ?_)
      have hM15 : Sh M15 := eM15 ▸ (sW_0_7 hM14)
      have h := h M15 eM15 hM15
      show X G Y_X11_back d k n 56 [vA 0, vI x1] [vI (0 : Int)] M15 Q
      exact x_ireturn (dA D_X11_back 31 rfl) rfl h
    · have h := h.2 c
      refine x_aload_n (dA D_X11_back 14 rfl) rfl ?_
      refine x_bipush (dA D_X11_back 15 rfl) (by decide) (by decide) ?_
      refine x_callV 10 [vI (-2)] [] (dA D_X11_back 16 rfl) cw_RX11_104 rfl rfl (Nat.le_of_ble_eq_true rfl) (by decide) rfl hd1 (zk k) (zk n) (sO_0 hS) (S_X11_refuse hS ⟨by decide, by decide, by decide, by decide⟩ (by omega) ?_) (kI (fun _ _ h => h))
      refine x_nmM (fun M16 eM16 => ?_)
      have hM16 : Sh M16 := eM16 ▸ (sRef hS)
      have h := h M16 eM16 hM16
      show X G Y_X11_back d k n 30 [vA 0, vI x1] [vI (-2 : Int)] M16 Q
      exact x_ireturn (dA D_X11_back 17 rfl) rfl h
  refine x_if_ltP (tgt := 9) (dA D_X11_back 1 rfl) (by decide) h2 ⟨fun c1 => ?_, fun c1 => ?_⟩
  · exact hA (by first | omega | grind)
  · refine x_iload_n (dA D_X11_back 2 rfl) rfl ?_
    refine x_iconst (dA D_X11_back 3 rfl) ?_
    refine x_icmp_leP (tgt := 15) (dA D_X11_back 4 rfl) (by decide) h2 ⟨by decide, by decide⟩ ⟨fun c5 => ?_, fun c5 => ?_⟩
    · exact hB (by first | omega | grind)
    · exact hA (by first | omega | grind)
theorem C_X11_back {G : GG} {d : Nat} {x1 : Int} {M : MM} {Q : PV → MM → Prop} (h : X G Y_X11_back d 0 0 0 [vA 0, vI x1] [] M Q) : C G Y_X11_back d 0 0 [vA 0, vI x1] M Q := X.entry (by decide) (Nat.le_of_ble_eq_true rfl) rfl rfl rfl h
set_option maxRecDepth 100000 in
theorem B_X11_law_0 {G : GG} {d : Nat} {M : MM} {Q : PV → MM → Prop} (hd : 2 ≤ d) (hS : Sh M) (h : ∀ v1, v1 = rd M 0 3 → ∀ M2, M2 = wr M 0 3 0 → Sh M2 → inR (rd M2 1 9) ∧ (((rd M2 1 9) ≠ 6 → C G Y_X7_reads (d - 1) 0 0 [vA 16, vA 14, vI v1] M2 (rI (fun r5 M4 => Sh M4 ∧ ∀ M6, M6 = wr M4 0 5 r5 → Sh M6 → inR (rd M6 0 5) ∧ (((rd M6 0 5) = (-1) → ∀ M8, M8 = al M6 4 (kN 4) (fun j => dV (fT 4 j.toNat)) → Sh M8 → 0 ≤ (mN M6) ∧ C G Y_X5_init (d - 1) 3 1200 [vA (mN M6), vA 16] M8 (rU (fun M10 => Sh M10 ∧ 0 ≤ (rd M6 1 9) ∧ (rd M6 1 9) < 6 ∧ okO M10 (mN M6) 4 ∧ ∀ M13, M13 = wr M10 9 (rd M6 1 9) (mN M6) → Sh M13 → ∀ M15, M15 = wr M13 1 9 ((rd M13 1 9) + 1) → Sh M15 → ∀ M16, M16 = accM M15 → Sh M16 → Q (vI ((rd M15 1 9) - 1)) M16))) ∧ ((rd M6 0 5) ≠ (-1) → ∀ M17, M17 = refM M6 (-6 : Int) → Sh M17 → Q (vI (-6 : Int)) M17))))) ∧ ((rd M2 1 9) = 6 → ∀ M18, M18 = refM M2 (-5 : Int) → Sh M18 → Q (vI (-5 : Int)) M18))) : X G Y_X11_law d 4 1204 0 [vA 0, vU] [] M Q := by
  have hd1 : 1 ≤ d := by omega
  refine x_aload_n (dA D_X11_law 0 rfl) rfl ?_
  refine x_get (v := vI (rd M 0 3)) (dA D_X11_law 1 rfl) fw_RX11_24 (sO_0 hS) rfl ?_
  refine x_nmI (fun v1 ev1 => ?_)
  have h := h v1 ev1
  refine x_istore_n (xs' := [vA 0, vI v1]) (dA D_X11_law 2 rfl) (by decide) rfl ?_
  refine x_aload_n (dA D_X11_law 3 rfl) rfl ?_
  refine x_iconst (dA D_X11_law 4 rfl) ?_
  refine x_put (x := 0) (dA D_X11_law 5 rfl) fw_RX11_24 (fun _ _ hc => by cases hc; exact Or.inl rfl) (sO_0 hS) rfl rfl rfl ?_
  refine x_nmM (fun M2 eM2 => ?_)
  have hM2 : Sh M2 := eM2 ▸ (sW_0_3 hS)
  have h := h M2 eM2 hM2
  refine x_aload_n (dA D_X11_law 6 rfl) rfl ?_
  refine x_get (v := vA 1) (dA D_X11_law 7 rfl) fw_RX11_12 (sO_0 hM2) (congrArg (rfV G) (sR_0_0 hM2)) ?_
  refine x_get (v := vI (rd M2 1 9)) (dA D_X11_law 8 rfl) fw_RX11_163 (sO_1 hM2) rfl ?_
  refine x_bipush (dA D_X11_law 9 rfl) (by decide) (by decide) ?_
  obtain ⟨h3, h⟩ := h
  refine x_icmp_neP (tgt := 29) (dA D_X11_law 10 rfl) (by decide) h3 ⟨by decide, by decide⟩ ⟨fun c => ?_, fun c => ?_⟩
  · have h := h.1 c
    refine x_aload_n (dA D_X11_law 15 rfl) rfl ?_
    refine x_aload_n (dA D_X11_law 16 rfl) rfl ?_
    refine x_get (v := vA 16) (dA D_X11_law 17 rfl) fw_RX11_43 (sO_0 hM2) (congrArg (rfV G) (sR_0_8 hM2)) ?_
    refine x_aload_n (dA D_X11_law 18 rfl) rfl ?_
    refine x_get (v := vA 14) (dA D_X11_law 19 rfl) fw_RX11_20 (sO_0 hM2) (congrArg (rfV G) (sR_0_2 hM2)) ?_
    refine x_iload_n (dA D_X11_law 20 rfl) rfl ?_
    refine x_callV 6 [vA 14, vI v1] [vA 0] (dA D_X11_law 21 rfl) cw_RX11_166 rfl rfl (Nat.le_of_ble_eq_true rfl) (by decide) rfl hd1 (k := 4) (n := 1204) (by decide) (by decide) (sO_16 hM2) h (kI (fun r5 M4 h => ?_))
    obtain ⟨hM4, h⟩ := h
    refine x_put (x := r5) (dA D_X11_law 22 rfl) fw_RX11_31 (fun _ _ hc => by cases hc; exact Or.inl rfl) (sO_0 hM4) rfl rfl rfl ?_
    refine x_nmM (fun M6 eM6 => ?_)
    have hM6 : Sh M6 := eM6 ▸ (sW_0_5 hM4)
    have h := h M6 eM6 hM6
    refine x_aload_n (dA D_X11_law 23 rfl) rfl ?_
    refine x_get (v := vI (rd M6 0 5)) (dA D_X11_law 24 rfl) fw_RX11_31 (sO_0 hM6) rfl ?_
    refine x_iconst (dA D_X11_law 25 rfl) ?_
    obtain ⟨h7, h⟩ := h
    refine x_icmp_eqP (tgt := 60) (dA D_X11_law 26 rfl) (by decide) h7 ⟨by decide, by decide⟩ ⟨fun c => ?_, fun c => ?_⟩
    · have h := h.1 c
      refine x_aload_n (dA D_X11_law 31 rfl) rfl ?_
      refine x_get (v := vA 1) (dA D_X11_law 32 rfl) fw_RX11_12 (sO_0 hM6) (congrArg (rfV G) (sR_0_0 hM6)) ?_
      refine x_get (v := vA 9) (dA D_X11_law 33 rfl) fw_RX11_170 (sO_1 hM6) (congrArg (rfV G) (sR_1_8 hM6)) ?_
      refine x_aload_n (dA D_X11_law 34 rfl) rfl ?_
      refine x_get (v := vA 1) (dA D_X11_law 35 rfl) fw_RX11_12 (sO_0 hM6) (congrArg (rfV G) (sR_0_0 hM6)) ?_
      refine x_get (v := vI (rd M6 1 9)) (dA D_X11_law 36 rfl) fw_RX11_163 (sO_1 hM6) rfl ?_
      refine x_new (k := 3) (n := 1200) (dA D_X11_law 37 rfl) nw_RX11_174 (by decide) ?_
      refine x_nmM (fun M8 eM8 => ?_)
      have hM8 : Sh M8 := eM8 ▸ (sAl hM6)
      have h := h M8 eM8 hM8
      refine x_dup (dA D_X11_law 38 rfl) rfl ?_
      refine x_aload_n (dA D_X11_law 39 rfl) rfl ?_
      refine x_get (v := vA 16) (dA D_X11_law 40 rfl) fw_RX11_43 (sO_0 hM8) (congrArg (rfV G) (sR_0_8 hM8)) ?_
      obtain ⟨h9, h⟩ := h
      refine x_callI [vA 16] [vA (mN M6), vI (rd M6 1 9), vA 9] (dA D_X11_law 41 rfl) cw_RX11_176 rfl rfl (Nat.le_of_ble_eq_true rfl) hd1 (k := 0) (n := 0) (by decide) (by decide) h9 h (kU (fun M10 h => ?_))
      obtain ⟨hM10, h⟩ := h
      obtain ⟨h11, h⟩ := h
      obtain ⟨h12, h⟩ := h
      obtain ⟨h14, h⟩ := h
      refine x_aast 24 4 (by decide) (dA D_X11_law 42 rfl) (sA_9 hM10 h11 h12) h14 ?_
      refine x_nmM (fun M13 eM13 => ?_)
      have hM13 : Sh M13 := eM13 ▸ (sW_9 hM10)
      have h := h M13 eM13 hM13
      refine x_aload_n (dA D_X11_law 43 rfl) rfl ?_
      refine x_get (v := vA 1) (dA D_X11_law 44 rfl) fw_RX11_12 (sO_0 hM13) (congrArg (rfV G) (sR_0_0 hM13)) ?_
      refine x_dup (dA D_X11_law 45 rfl) rfl ?_
      refine x_get (v := vI (rd M13 1 9)) (dA D_X11_law 46 rfl) fw_RX11_163 (sO_1 hM13) rfl ?_
      refine x_iconst (dA D_X11_law 47 rfl) ?_
      refine x_iadd (dA D_X11_law 48 rfl) ?_
      refine x_put (x := (rd M13 1 9) + 1) (dA D_X11_law 49 rfl) fw_RX11_163 (fun _ _ hc => by cases hc; exact Or.inl rfl) (sO_1 hM13) rfl rfl rfl ?_
      refine x_nmM (fun M15 eM15 => ?_)
      have hM15 : Sh M15 := eM15 ▸ (sW_1_9 hM13)
      have h := h M15 eM15 hM15
      refine x_aload_n (dA D_X11_law 50 rfl) rfl ?_
      refine x_aload_n (dA D_X11_law 51 rfl) rfl ?_
      refine x_get (v := vA 1) (dA D_X11_law 52 rfl) fw_RX11_12 (sO_0 hM15) (congrArg (rfV G) (sR_0_0 hM15)) ?_
      refine x_get (v := vI (rd M15 1 9)) (dA D_X11_law 53 rfl) fw_RX11_163 (sO_1 hM15) rfl ?_
      refine x_iconst (dA D_X11_law 54 rfl) ?_
      refine x_isub (dA D_X11_law 55 rfl) ?_
      refine x_callV 10 [vI ((rd M15 1 9) - 1)] [] (dA D_X11_law 56 rfl) cw_RX11_118 rfl rfl (Nat.le_of_ble_eq_true rfl) (by decide) rfl hd1 (k := 0) (n := 0) (by decide) (by decide) (sO_0 hM15) (S_X11_accept hM15  (by omega) ?_) (kI (fun _ _ h => h))
      refine x_nmM (fun M16 eM16 => ?_)
      have hM16 : Sh M16 := eM16 ▸ (sW_0_7 hM15)
      have h := h M16 eM16 hM16
      show X G Y_X11_law d 0 0 112 [vA 0, vI v1] [vI ((rd M15 1 9) - 1)] M16 Q
      exact x_ireturn (dA D_X11_law 57 rfl) rfl h
    · have h := h.2 c
      refine x_aload_n (dA D_X11_law 27 rfl) rfl ?_
      refine x_bipush (dA D_X11_law 28 rfl) (by decide) (by decide) ?_
      refine x_callV 10 [vI (-6)] [] (dA D_X11_law 29 rfl) cw_RX11_104 rfl rfl (Nat.le_of_ble_eq_true rfl) (by decide) rfl hd1 (k := 4) (n := 1204) (by decide) (by decide) (sO_0 hM6) (S_X11_refuse hM6 ⟨by decide, by decide, by decide, by decide⟩ (by omega) ?_) (kI (fun _ _ h => h))
      refine x_nmM (fun M17 eM17 => ?_)
      have hM17 : Sh M17 := eM17 ▸ (sRef hM6)
      have h := h M17 eM17 hM17
      show X G Y_X11_law d 4 1204 59 [vA 0, vI v1] [vI (-6 : Int)] M17 Q
      exact x_ireturn (dA D_X11_law 30 rfl) rfl h
  · have h := h.2 c
    refine x_aload_n (dA D_X11_law 11 rfl) rfl ?_
    refine x_bipush (dA D_X11_law 12 rfl) (by decide) (by decide) ?_
    refine x_callV 10 [vI (-5)] [] (dA D_X11_law 13 rfl) cw_RX11_104 rfl rfl (Nat.le_of_ble_eq_true rfl) (by decide) rfl hd1 (k := 4) (n := 1204) (by decide) (by decide) (sO_0 hM2) (S_X11_refuse hM2 ⟨by decide, by decide, by decide, by decide⟩ (by omega) ?_) (kI (fun _ _ h => h))
    refine x_nmM (fun M18 eM18 => ?_)
    have hM18 : Sh M18 := eM18 ▸ (sRef hM2)
    have h := h M18 eM18 hM18
    show X G Y_X11_law d 4 1204 28 [vA 0, vI v1] [vI (-5 : Int)] M18 Q
    exact x_ireturn (dA D_X11_law 14 rfl) rfl h
theorem C_X11_law {G : GG} {d : Nat} {M : MM} {Q : PV → MM → Prop} (h : X G Y_X11_law d 4 1204 0 [vA 0, vU] [] M Q) : C G Y_X11_law d 4 1204 [vA 0] M Q := X.entry (by decide) (Nat.le_of_ble_eq_true rfl) rfl rfl rfl h
