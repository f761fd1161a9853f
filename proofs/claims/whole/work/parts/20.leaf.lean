set_option maxRecDepth 100000 in
theorem B_X2_addTimes_0 {G : GG} {d : Nat} {k n : Nat} {x0 x1 x2 x3 x4 : Int} {M : MM} {Q : PV → MM → Prop} (hd : 1 ≤ d) (h : X G Y_X2_addTimes d k n 3 [vA x0, vA x1, vI x2, vI x3, vL x4, vU, vI 0] [] M Q) : X G Y_X2_addTimes d k n 0 [vA x0, vA x1, vI x2, vI x3, vL x4, vU, vU] [] M Q := by
  have hd1 : 1 ≤ d := by omega
  refine x_iconst (dA D_X2_addTimes 0 rfl) ?_
  refine x_istore (xs' := [vA x0, vA x1, vI x2, vI x3, vL x4, vU, vI 0]) (dA D_X2_addTimes 1 rfl) (by decide) rfl ?_
  exact h
theorem C_X2_addTimes {G : GG} {d : Nat} {x0 x1 x2 x3 x4 : Int} {M : MM} {Q : PV → MM → Prop} (h : X G Y_X2_addTimes d 0 0 0 [vA x0, vA x1, vI x2, vI x3, vL x4, vU, vU] [] M Q) : C G Y_X2_addTimes d 0 0 [vA x0, vA x1, vI x2, vI x3, vL x4] M Q := X.entry (by decide) (Nat.le_of_ble_eq_true rfl) rfl rfl rfl h
set_option maxRecDepth 100000 in
theorem B_X2_addTimes_3 {G : GG} {d : Nat} {k n : Nat} {x0 x1 x2 x3 x4 x6 : Int} {M : MM} {Q : PV → MM → Prop} (hd : 1 ≤ d) (h : inR x6 ∧ inR x3 ∧ ((x3 ≤ x6 → Q vU M) ∧ (x6 < x3 → okA M x0 21 x6 ∧ okA M x1 21 (x2 + x6) ∧ ∀ M5, M5 = wr M x0 x6 ((rd M x0 x6) + ((rd M x1 (x2 + x6)) * x4)) → X G Y_X2_addTimes d k n 3 [vA x0, vA x1, vI x2, vI x3, vL x4, vU, vI (x6 + 1)] [] M5 Q))) : X G Y_X2_addTimes d k n 3 [vA x0, vA x1, vI x2, vI x3, vL x4, vU, vI x6] [] M Q := by
  have hd1 : 1 ≤ d := by omega
  refine x_iload (dA D_X2_addTimes 2 rfl) rfl ?_
  refine x_iload_n (dA D_X2_addTimes 3 rfl) rfl ?_
  obtain ⟨h1, h⟩ := h
  obtain ⟨h2, h⟩ := h
  refine x_icmp_geP (tgt := 31) (dA D_X2_addTimes 4 rfl) (by decide) h1 h2 ⟨fun c => ?_, fun c => ?_⟩
  · have h := h.1 c
    exact x_return (dA D_X2_addTimes 20 rfl) rfl h
  · have h := h.2 c
    refine x_aload_n (dA D_X2_addTimes 5 rfl) rfl ?_
    refine x_iload (dA D_X2_addTimes 6 rfl) rfl ?_
    refine x_dup2 (dA D_X2_addTimes 7 rfl) rfl rfl ?_
    obtain ⟨h3, h⟩ := h
    refine x_lald (dA D_X2_addTimes 8 rfl) h3 ?_
    refine x_aload_n (dA D_X2_addTimes 9 rfl) rfl ?_
    refine x_iload_n (dA D_X2_addTimes 10 rfl) rfl ?_
    refine x_iload (dA D_X2_addTimes 11 rfl) rfl ?_
    refine x_iadd (dA D_X2_addTimes 12 rfl) ?_
    obtain ⟨h4, h⟩ := h
    refine x_lald (dA D_X2_addTimes 13 rfl) h4 ?_
    refine x_lload (dA D_X2_addTimes 14 rfl) rfl ?_
    refine x_lmul (dA D_X2_addTimes 15 rfl) ?_
    refine x_ladd (dA D_X2_addTimes 16 rfl) ?_
    refine x_last (dA D_X2_addTimes 17 rfl) h3 ?_
    refine x_nmM (fun M5 eM5 => ?_)
    have h := h M5 eM5
    refine x_iinc (xs' := [vA x0, vA x1, vI x2, vI x3, vL x4, vU, vI (x6 + 1)]) (dA D_X2_addTimes 18 rfl) rfl (by decide) rfl ?_
    refine x_goto (tgt := 3) (dA D_X2_addTimes 19 rfl) (by decide) ?_
    exact h
set_option maxRecDepth 100000 in
theorem B_X2_carry_0 {G : GG} {d : Nat} {k n : Nat} {x0 : Int} {M : MM} {Q : PV → MM → Prop} (hd : 1 ≤ d) (h : X G Y_X2_carry d k n 4 [vA x0, vL 0, vU, vI 0, vU, vU] [] M Q) : X G Y_X2_carry d k n 0 [vA x0, vU, vU, vU, vU, vU] [] M Q := by
  have hd1 : 1 ≤ d := by omega
  refine x_lconst (a := 0) (dA D_X2_carry 0 rfl) (by decide) ?_
  refine x_lstore_n (xs' := [vA x0, vL 0, vU, vU, vU, vU]) (dA D_X2_carry 1 rfl) (by decide) rfl ?_
  refine x_iconst (dA D_X2_carry 2 rfl) ?_
  refine x_istore_n (xs' := [vA x0, vL 0, vU, vI 0, vU, vU]) (dA D_X2_carry 3 rfl) (by decide) rfl ?_
  exact h
theorem C_X2_carry {G : GG} {d : Nat} {x0 : Int} {M : MM} {Q : PV → MM → Prop} (h : X G Y_X2_carry d 0 0 0 [vA x0, vU, vU, vU, vU, vU] [] M Q) : C G Y_X2_carry d 0 0 [vA x0] M Q := X.entry (by decide) (Nat.le_of_ble_eq_true rfl) rfl rfl rfl h
set_option maxRecDepth 100000 in
theorem B_X2_carry_4 {G : GG} {d : Nat} {k n : Nat} {x0 x1 x3 : Int} {M : MM} {Q : PV → MM → Prop} (hd : 1 ≤ d) (h : inR x3 ∧ ((14 ≤ x3 → Q vU M) ∧ (x3 < 14 → okA M x0 21 x3 ∧ ∀ v3, v3 = (rd M x0 x3) + x1 → inL v3 ∧ ∀ v5, v5 = Int.tdiv v3 100000000 → ∀ M6, M6 = wr M x0 x3 (v3 - (v5 * 100000000)) → X G Y_X2_carry d k n 4 [vA x0, vL v5, vU, vI (x3 + 1), vU, vU] [] M6 Q))) : X G Y_X2_carry d k n 4 [vA x0, vL x1, vU, vI x3, vU, vU] [] M Q := by
  have hd1 : 1 ≤ d := by omega
  refine x_iload_n (dA D_X2_carry 4 rfl) rfl ?_
  refine x_bipush (dA D_X2_carry 5 rfl) (by decide) (by decide) ?_
  obtain ⟨h1, h⟩ := h
  refine x_icmp_geP (tgt := 41) (dA D_X2_carry 6 rfl) (by decide) h1 ⟨by decide, by decide⟩ ⟨fun c => ?_, fun c => ?_⟩
  · have h := h.1 c
    exact x_return (dA D_X2_carry 27 rfl) rfl h
  · have h := h.2 c
    refine x_aload_n (dA D_X2_carry 7 rfl) rfl ?_
    refine x_iload_n (dA D_X2_carry 8 rfl) rfl ?_
    obtain ⟨h2, h⟩ := h
    refine x_lald (dA D_X2_carry 9 rfl) h2 ?_
    refine x_lload_n (dA D_X2_carry 10 rfl) rfl ?_
    refine x_ladd (dA D_X2_carry 11 rfl) ?_
    refine x_nmL (fun v3 ev3 => ?_)
    have h := h v3 ev3
    refine x_lstore (xs' := [vA x0, vL x1, vU, vI x3, vL v3, vU]) (dA D_X2_carry 12 rfl) (by decide) rfl ?_
    refine x_lload (dA D_X2_carry 13 rfl) rfl ?_
    refine x_ldc2 (a := 100000000) (dA D_X2_carry 14 rfl) kl_RX2_15 (by decide) ?_
    obtain ⟨h4, h⟩ := h
    refine x_ldiv (dA D_X2_carry 15 rfl) h4 ⟨by decide, by decide⟩ (by decide) ?_
    refine x_nmL (fun v5 ev5 => ?_)
    have h := h v5 ev5
    refine x_lstore_n (xs' := [vA x0, vL v5, vU, vI x3, vL v3, vU]) (dA D_X2_carry 16 rfl) (by decide) rfl ?_
    refine x_aload_n (dA D_X2_carry 17 rfl) rfl ?_
    refine x_iload_n (dA D_X2_carry 18 rfl) rfl ?_
    refine x_lload (dA D_X2_carry 19 rfl) rfl ?_
    refine x_lload_n (dA D_X2_carry 20 rfl) rfl ?_
    refine x_ldc2 (a := 100000000) (dA D_X2_carry 21 rfl) kl_RX2_15 (by decide) ?_
    refine x_lmul (dA D_X2_carry 22 rfl) ?_
    refine x_lsub (dA D_X2_carry 23 rfl) ?_
    refine x_last (dA D_X2_carry 24 rfl) h2 ?_
    refine x_nmM (fun M6 eM6 => ?_)
    have h := h M6 eM6
    refine x_iinc (xs' := [vA x0, vL v5, vU, vI (x3 + 1), vL v3, vU]) (dA D_X2_carry 25 rfl) rfl (by decide) rfl ?_
    refine x_goto (tgt := 4) (dA D_X2_carry 26 rfl) (by decide) ?_
    refine X.weak (xs' := [vA x0, vL v5, vU, vI (x3 + 1), vU, vU]) ⟨Or.inl rfl, Or.inl rfl, Or.inl rfl, Or.inl rfl, Or.inr rfl, Or.inl rfl, trivial⟩ ?_
    exact h
set_option maxRecDepth 100000 in
theorem B_X2_compare_0 {G : GG} {d : Nat} {k n : Nat} {x0 x1 x2 x3 : Int} {M : MM} {Q : PV → MM → Prop} (hd : 1 ≤ d) (h : ∀ v1, v1 = x3 - 1 → X G Y_X2_compare d k n 5 [vA x0, vA x1, vI x2, vI x3, vI v1] [] M Q) : X G Y_X2_compare d k n 0 [vA x0, vA x1, vI x2, vI x3, vU] [] M Q := by
  have hd1 : 1 ≤ d := by omega
  refine x_iload_n (dA D_X2_compare 0 rfl) rfl ?_
  refine x_iconst (dA D_X2_compare 1 rfl) ?_
  refine x_isub (dA D_X2_compare 2 rfl) ?_
  refine x_nmI (fun v1 ev1 => ?_)
  have h := h v1 ev1
  refine x_istore (xs' := [vA x0, vA x1, vI x2, vI x3, vI v1]) (dA D_X2_compare 3 rfl) (by decide) rfl ?_
  exact h
theorem C_X2_compare {G : GG} {d : Nat} {x0 x1 x2 x3 : Int} {M : MM} {Q : PV → MM → Prop} (h : X G Y_X2_compare d 0 0 0 [vA x0, vA x1, vI x2, vI x3, vU] [] M Q) : C G Y_X2_compare d 0 0 [vA x0, vA x1, vI x2, vI x3] M Q := X.entry (by decide) (Nat.le_of_ble_eq_true rfl) rfl rfl rfl h
set_option maxRecDepth 100000 in
theorem B_X2_compare_5 {G : GG} {d : Nat} {k n : Nat} {x0 x1 x2 x3 x4 : Int} {M : MM} {Q : PV → MM → Prop} (hd : 1 ≤ d) (h : inR x4 ∧ ((x4 < 0 → Q (vI 0) M) ∧ (0 ≤ x4 → okA M x0 21 x4 ∧ okA M x1 21 (x2 + x4) ∧ inL (rd M x0 x4) ∧ inL (rd M x1 (x2 + x4)) ∧ (((rd M x0 x4) = (rd M x1 (x2 + x4)) → X G Y_X2_compare d k n 5 [vA x0, vA x1, vI x2, vI x3, vI (x4 + (-1))] [] M Q) ∧ ((rd M x0 x4) ≠ (rd M x1 (x2 + x4)) → Q (vI (if (rd M x1 (x2 + x4)) ≤ (rd M x0 x4) then 1 else (-1))) M))))) : X G Y_X2_compare d k n 5 [vA x0, vA x1, vI x2, vI x3, vI x4] [] M Q := by
  have hd1 : 1 ≤ d := by omega
  refine x_iload (dA D_X2_compare 4 rfl) rfl ?_
  obtain ⟨h1, h⟩ := h
  refine x_if_ltP (tgt := 50) (dA D_X2_compare 5 rfl) (by decide) h1 ⟨fun c => ?_, fun c => ?_⟩
  · have h := h.1 c
    refine x_iconst (dA D_X2_compare 32 rfl) ?_
    exact x_ireturn (dA D_X2_compare 33 rfl) rfl h
  · have h := h.2 c
    refine x_aload_n (dA D_X2_compare 6 rfl) rfl ?_
    refine x_iload (dA D_X2_compare 7 rfl) rfl ?_
    obtain ⟨h2, h⟩ := h
    refine x_lald (dA D_X2_compare 8 rfl) h2 ?_
    refine x_aload_n (dA D_X2_compare 9 rfl) rfl ?_
    refine x_iload_n (dA D_X2_compare 10 rfl) rfl ?_
    refine x_iload (dA D_X2_compare 11 rfl) rfl ?_
    refine x_iadd (dA D_X2_compare 12 rfl) ?_
    obtain ⟨h3, h⟩ := h
    refine x_lald (dA D_X2_compare 13 rfl) h3 ?_
    obtain ⟨h4, h⟩ := h
    obtain ⟨h5, h⟩ := h
    refine x_lcmp_eqP (tgt := 44) (dA D_X2_compare 14 rfl) (dA D_X2_compare 15 rfl) (by decide) h4 h5 ⟨fun c => ?_, fun c => ?_⟩
    · have h := h.1 c
      refine x_iinc (xs' := [vA x0, vA x1, vI x2, vI x3, vI (x4 + (-1))]) (dA D_X2_compare 30 rfl) rfl (by decide) rfl ?_
      refine x_goto (tgt := 5) (dA D_X2_compare 31 rfl) (by decide) ?_
      exact h
    · have h := h.2 c
      refine x_aload_n (dA D_X2_compare 16 rfl) rfl ?_
      refine x_iload (dA D_X2_compare 17 rfl) rfl ?_
      refine x_lald (dA D_X2_compare 18 rfl) h2 ?_
      refine x_aload_n (dA D_X2_compare 19 rfl) rfl ?_
      refine x_iload_n (dA D_X2_compare 20 rfl) rfl ?_
      refine x_iload (dA D_X2_compare 21 rfl) rfl ?_
      refine x_iadd (dA D_X2_compare 22 rfl) ?_
      refine x_lald (dA D_X2_compare 23 rfl) h3 ?_
      have hJ : X G Y_X2_compare d k n 43 [vA x0, vA x1, vI x2, vI x3, vI x4] [vI (if (rd M x1 (x2 + x4)) ≤ (rd M x0 x4) then 1 else (-1))] M Q := by
        exact x_ireturn (dA D_X2_compare 29 rfl) rfl h
      refine x_lcmp_geP (tgt := 42) (dA D_X2_compare 24 rfl) (dA D_X2_compare 25 rfl) (by decide) h4 h5 ⟨fun c6 => ?_, fun c6 => ?_⟩
      · refine x_iconst (dA D_X2_compare 28 rfl) ?_
        rw [if_pos c6] at hJ
        exact hJ
      · refine x_iconst (dA D_X2_compare 26 rfl) ?_
        refine x_goto (tgt := 43) (dA D_X2_compare 27 rfl) (by decide) ?_
        rw [if_neg (by first | omega | grind)] at hJ
        exact hJ
set_option maxRecDepth 100000 in
theorem B_X2_subtract_0 {G : GG} {d : Nat} {k n : Nat} {x0 x1 : Int} {M : MM} {Q : PV → MM → Prop} (hd : 1 ≤ d) (h : X G Y_X2_subtract d k n 5 [vA x0, vA x1, vL 0, vU, vI 0, vU, vU] [] M Q) : X G Y_X2_subtract d k n 0 [vA x0, vA x1, vU, vU, vU, vU, vU] [] M Q := by
  have hd1 : 1 ≤ d := by omega
  refine x_lconst (a := 0) (dA D_X2_subtract 0 rfl) (by decide) ?_
  refine x_lstore_n (xs' := [vA x0, vA x1, vL 0, vU, vU, vU, vU]) (dA D_X2_subtract 1 rfl) (by decide) rfl ?_
  refine x_iconst (dA D_X2_subtract 2 rfl) ?_
  refine x_istore (xs' := [vA x0, vA x1, vL 0, vU, vI 0, vU, vU]) (dA D_X2_subtract 3 rfl) (by decide) rfl ?_
  exact h
theorem C_X2_subtract {G : GG} {d : Nat} {x0 x1 : Int} {M : MM} {Q : PV → MM → Prop} (h : X G Y_X2_subtract d 0 0 0 [vA x0, vA x1, vU, vU, vU, vU, vU] [] M Q) : C G Y_X2_subtract d 0 0 [vA x0, vA x1] M Q := X.entry (by decide) (Nat.le_of_ble_eq_true rfl) rfl rfl rfl h
set_option maxRecDepth 100000 in
theorem B_X2_subtract_5 {G : GG} {d : Nat} {k n : Nat} {x0 x1 x2 x4 : Int} {M : MM} {Q : PV → MM → Prop} (hd : 1 ≤ d) (h : inR x4 ∧ ((14 ≤ x4 → Q vU M) ∧ (x4 < 14 → okA M x0 21 x4 ∧ okA M x1 21 x4 ∧ ∀ v4, v4 = ((rd M x0 x4) - (rd M x1 x4)) - x2 → inL v4 ∧ ∀ v10, v10 = (if 0 ≤ v4 then 0 else 1) → ∀ M11, M11 = wr M x0 x4 (v4 + (v10 * 100000000)) → X G Y_X2_subtract d k n 5 [vA x0, vA x1, vL v10, vU, vI (x4 + 1), vU, vU] [] M11 Q))) : X G Y_X2_subtract d k n 5 [vA x0, vA x1, vL x2, vU, vI x4, vU, vU] [] M Q := by
  have hd1 : 1 ≤ d := by omega
  refine x_iload (dA D_X2_subtract 4 rfl) rfl ?_
  refine x_bipush (dA D_X2_subtract 5 rfl) (by decide) (by decide) ?_
  obtain ⟨h1, h⟩ := h
  refine x_icmp_geP (tgt := 56) (dA D_X2_subtract 6 rfl) (by decide) h1 ⟨by decide, by decide⟩ ⟨fun c => ?_, fun c => ?_⟩
  · have h := h.1 c
    exact x_return (dA D_X2_subtract 35 rfl) rfl h
  · have h := h.2 c
    refine x_aload_n (dA D_X2_subtract 7 rfl) rfl ?_
    refine x_iload (dA D_X2_subtract 8 rfl) rfl ?_
    obtain ⟨h2, h⟩ := h
    refine x_lald (dA D_X2_subtract 9 rfl) h2 ?_
    refine x_aload_n (dA D_X2_subtract 10 rfl) rfl ?_
    refine x_iload (dA D_X2_subtract 11 rfl) rfl ?_
    obtain ⟨h3, h⟩ := h
    refine x_lald (dA D_X2_subtract 12 rfl) h3 ?_
    refine x_lsub (dA D_X2_subtract 13 rfl) ?_
    refine x_lload_n (dA D_X2_subtract 14 rfl) rfl ?_
    refine x_lsub (dA D_X2_subtract 15 rfl) ?_
    refine x_nmL (fun v4 ev4 => ?_)
    have h := h v4 ev4
    refine x_lstore (xs' := [vA x0, vA x1, vL x2, vU, vI x4, vL v4, vU]) (dA D_X2_subtract 16 rfl) (by decide) rfl ?_
    refine x_lload (dA D_X2_subtract 17 rfl) rfl ?_
    refine x_lconst (a := 0) (dA D_X2_subtract 18 rfl) (by decide) ?_
    obtain ⟨h6, h⟩ := h
    have hJ : X G Y_X2_subtract d k n 37 [vA x0, vA x1, vL x2, vU, vI x4, vL v4, vU] [vL (if 0 ≤ v4 then 0 else 1)] M Q := by
      refine x_nmL (fun v10 ev10 => ?_)
      have h := h v10 ev10
      refine x_lstore_n (xs' := [vA x0, vA x1, vL v10, vU, vI x4, vL v4, vU]) (dA D_X2_subtract 24 rfl) (by decide) rfl ?_
      refine x_aload_n (dA D_X2_subtract 25 rfl) rfl ?_
      refine x_iload (dA D_X2_subtract 26 rfl) rfl ?_
      refine x_lload (dA D_X2_subtract 27 rfl) rfl ?_
      refine x_lload_n (dA D_X2_subtract 28 rfl) rfl ?_
      refine x_ldc2 (a := 100000000) (dA D_X2_subtract 29 rfl) kl_RX2_15 (by decide) ?_
      refine x_lmul (dA D_X2_subtract 30 rfl) ?_
      refine x_ladd (dA D_X2_subtract 31 rfl) ?_
      refine x_last (dA D_X2_subtract 32 rfl) h2 ?_
      refine x_nmM (fun M11 eM11 => ?_)
      have h := h M11 eM11
      refine x_iinc (xs' := [vA x0, vA x1, vL v10, vU, vI (x4 + 1), vL v4, vU]) (dA D_X2_subtract 33 rfl) rfl (by decide) rfl ?_
      refine x_goto (tgt := 5) (dA D_X2_subtract 34 rfl) (by decide) ?_
      refine X.weak (xs' := [vA x0, vA x1, vL v10, vU, vI (x4 + 1), vU, vU]) ⟨Or.inl rfl, Or.inl rfl, Or.inl rfl, Or.inl rfl, Or.inl rfl, Or.inr rfl, Or.inl rfl, trivial⟩ ?_
      exact h
    refine x_lcmp_geP (tgt := 36) (dA D_X2_subtract 19 rfl) (dA D_X2_subtract 20 rfl) (by decide) h6 ⟨by decide, by decide⟩ ⟨fun c5 => ?_, fun c5 => ?_⟩
    · refine x_lconst (a := 0) (dA D_X2_subtract 23 rfl) (by decide) ?_
      rw [if_pos c5] at hJ
      exact hJ
    · refine x_lconst (a := 1) (dA D_X2_subtract 21 rfl) (by decide) ?_
      refine x_goto (tgt := 37) (dA D_X2_subtract 22 rfl) (by decide) ?_
      rw [if_neg (by first | omega | grind)] at hJ
      exact hJ
set_option maxRecDepth 100000 in
theorem B_X2_figure_0 {G : GG} {d : Nat} {k n : Nat} {x0 x1 : Int} {M : MM} {Q : PV → MM → Prop} (hd : 1 ≤ d) (h : inR x1 ∧ ∀ v2, v2 = Int.tdiv x1 8 → inR v2 ∧ ((14 ≤ v2 → ∀ v4, v4 = Int.tmod x1 8 → X G Y_X2_figure d k n 25 [vA x0, vI x1, vI v2, vL 0, vU, vI v4] [] M Q) ∧ (v2 < 14 → okA M x0 21 v2 ∧ ∀ v6, v6 = rd M x0 v2 → ∀ v7, v7 = Int.tmod x1 8 → X G Y_X2_figure d k n 25 [vA x0, vI x1, vI v2, vL v6, vU, vI v7] [] M Q))) : X G Y_X2_figure d k n 0 [vA x0, vI x1, vU, vU, vU, vU] [] M Q := by
  have hd1 : 1 ≤ d := by omega
  refine x_iload_n (dA D_X2_figure 0 rfl) rfl ?_
  refine x_bipush (dA D_X2_figure 1 rfl) (by decide) (by decide) ?_
  obtain ⟨h1, h⟩ := h
  refine x_idiv (dA D_X2_figure 2 rfl) h1 ⟨by decide, by decide⟩ (by decide) ?_
  refine x_nmI (fun v2 ev2 => ?_)
  have h := h v2 ev2
  refine x_istore_n (xs' := [vA x0, vI x1, vI v2, vU, vU, vU]) (dA D_X2_figure 3 rfl) (by decide) rfl ?_
  refine x_iload_n (dA D_X2_figure 4 rfl) rfl ?_
  refine x_bipush (dA D_X2_figure 5 rfl) (by decide) (by decide) ?_
  obtain ⟨h3, h⟩ := h
  refine x_icmp_geP (tgt := 17) (dA D_X2_figure 6 rfl) (by decide) h3 ⟨by decide, by decide⟩ ⟨fun c => ?_, fun c => ?_⟩
  · have h := h.1 c
    refine x_lconst (a := 0) (dA D_X2_figure 11 rfl) (by decide) ?_
    refine x_lstore_n (xs' := [vA x0, vI x1, vI v2, vL 0, vU, vU]) (dA D_X2_figure 12 rfl) (by decide) rfl ?_
    refine x_iload_n (dA D_X2_figure 13 rfl) rfl ?_
    refine x_bipush (dA D_X2_figure 14 rfl) (by decide) (by decide) ?_
    refine x_irem (dA D_X2_figure 15 rfl) h1 ⟨by decide, by decide⟩ (by decide) ?_
    refine x_nmI (fun v4 ev4 => ?_)
    have h := h v4 ev4
    refine x_istore (xs' := [vA x0, vI x1, vI v2, vL 0, vU, vI v4]) (dA D_X2_figure 16 rfl) (by decide) rfl ?_
    exact h
  · have h := h.2 c
    refine x_aload_n (dA D_X2_figure 7 rfl) rfl ?_
    refine x_iload_n (dA D_X2_figure 8 rfl) rfl ?_
    obtain ⟨h5, h⟩ := h
    refine x_lald (dA D_X2_figure 9 rfl) h5 ?_
    refine x_goto (tgt := 18) (dA D_X2_figure 10 rfl) (by decide) ?_
    refine x_nmL (fun v6 ev6 => ?_)
    have h := h v6 ev6
    refine x_lstore_n (xs' := [vA x0, vI x1, vI v2, vL v6, vU, vU]) (dA D_X2_figure 12 rfl) (by decide) rfl ?_
    refine x_iload_n (dA D_X2_figure 13 rfl) rfl ?_
    refine x_bipush (dA D_X2_figure 14 rfl) (by decide) (by decide) ?_
    refine x_irem (dA D_X2_figure 15 rfl) h1 ⟨by decide, by decide⟩ (by decide) ?_
    refine x_nmI (fun v7 ev7 => ?_)
    have h := h v7 ev7
    refine x_istore (xs' := [vA x0, vI x1, vI v2, vL v6, vU, vI v7]) (dA D_X2_figure 16 rfl) (by decide) rfl ?_
    exact h
theorem C_X2_figure {G : GG} {d : Nat} {x0 x1 : Int} {M : MM} {Q : PV → MM → Prop} (h : X G Y_X2_figure d 0 0 0 [vA x0, vI x1, vU, vU, vU, vU] [] M Q) : C G Y_X2_figure d 0 0 [vA x0, vI x1] M Q := X.entry (by decide) (Nat.le_of_ble_eq_true rfl) rfl rfl rfl h
set_option maxRecDepth 100000 in
theorem B_X2_figure_25 {G : GG} {d : Nat} {k n : Nat} {x0 x1 x2 x3 x5 : Int} {M : MM} {Q : PV → MM → Prop} (hd : 1 ≤ d) (h : inR x5 ∧ ((x5 ≤ 0 → inL x3 ∧ Q (vI (Int.tmod x3 10)) M) ∧ (0 < x5 → inL x3 ∧ ∀ v4, v4 = Int.tdiv x3 10 → X G Y_X2_figure d k n 25 [vA x0, vI x1, vI x2, vL v4, vU, vI (x5 + (-1))] [] M Q))) : X G Y_X2_figure d k n 25 [vA x0, vI x1, vI x2, vL x3, vU, vI x5] [] M Q := by
  have hd1 : 1 ≤ d := by omega
  refine x_iload (dA D_X2_figure 17 rfl) rfl ?_
  obtain ⟨h1, h⟩ := h
  refine x_if_leP (tgt := 42) (dA D_X2_figure 18 rfl) (by decide) h1 ⟨fun c => ?_, fun c => ?_⟩
  · have h := h.1 c
    refine x_lload_n (dA D_X2_figure 25 rfl) rfl ?_
    refine x_ldc2 (a := 10) (dA D_X2_figure 26 rfl) kl_RX2_17 (by decide) ?_
    obtain ⟨h2, h⟩ := h
    refine x_lrem (dA D_X2_figure 27 rfl) h2 ⟨by decide, by decide⟩ (by decide) ?_
    refine x_l2i (dA D_X2_figure 28 rfl) ?_
    exact x_ireturn (dA D_X2_figure 29 rfl) rfl h
  · have h := h.2 c
    refine x_lload_n (dA D_X2_figure 19 rfl) rfl ?_
    refine x_ldc2 (a := 10) (dA D_X2_figure 20 rfl) kl_RX2_17 (by decide) ?_
    obtain ⟨h3, h⟩ := h
    refine x_ldiv (dA D_X2_figure 21 rfl) h3 ⟨by decide, by decide⟩ (by decide) ?_
    refine x_nmL (fun v4 ev4 => ?_)
    have h := h v4 ev4
    refine x_lstore_n (xs' := [vA x0, vI x1, vI x2, vL v4, vU, vI x5]) (dA D_X2_figure 22 rfl) (by decide) rfl ?_
    refine x_iinc (xs' := [vA x0, vI x1, vI x2, vL v4, vU, vI (x5 + (-1))]) (dA D_X2_figure 23 rfl) rfl (by decide) rfl ?_
    refine x_goto (tgt := 25) (dA D_X2_figure 24 rfl) (by decide) ?_
    exact h
set_option maxRecDepth 100000 in
theorem B_X2_spread_0 {G : GG} {d : Nat} {k n : Nat} {x0 x1 x2 : Int} {M : MM} {Q : PV → MM → Prop} (hd : 1 ≤ d) (h : okA M x0 21 0 ∧ ∀ M2, M2 = wr M x0 0 1 → X G Y_X2_spread d k n 6 [vA x0, vI x1, vI x2, vI x1, vU, vU, vU] [] M2 Q) : X G Y_X2_spread d k n 0 [vA x0, vI x1, vI x2, vU, vU, vU, vU] [] M Q := by
  have hd1 : 1 ≤ d := by omega
  refine x_aload_n (dA D_X2_spread 0 rfl) rfl ?_
  refine x_iconst (dA D_X2_spread 1 rfl) ?_
  refine x_lconst (a := 1) (dA D_X2_spread 2 rfl) (by decide) ?_
  obtain ⟨h1, h⟩ := h
  refine x_last (dA D_X2_spread 3 rfl) h1 ?_
  refine x_nmM (fun M2 eM2 => ?_)
  have h := h M2 eM2
  refine x_iload_n (dA D_X2_spread 4 rfl) rfl ?_
  refine x_istore_n (xs' := [vA x0, vI x1, vI x2, vI x1, vU, vU, vU]) (dA D_X2_spread 5 rfl) (by decide) rfl ?_
  exact h
theorem C_X2_spread {G : GG} {d : Nat} {x0 x1 x2 : Int} {M : MM} {Q : PV → MM → Prop} (h : X G Y_X2_spread d 0 0 0 [vA x0, vI x1, vI x2, vU, vU, vU, vU] [] M Q) : C G Y_X2_spread d 0 0 [vA x0, vI x1, vI x2] M Q := X.entry (by decide) (Nat.le_of_ble_eq_true rfl) rfl rfl rfl h
set_option maxRecDepth 100000 in
theorem B_X2_spread_6 {G : GG} {d : Nat} {k n : Nat} {x0 x1 x2 x3 : Int} {M : MM} {Q : PV → MM → Prop} (hd : 1 ≤ d) (h : inR x3 ∧ ((5 ≤ x3 → X G Y_X2_spread d k n 28 [vA x0, vI x1, vI x2, vI 1, vU, vU, vU] [] M Q) ∧ (x3 < 5 → okA M x0 21 0 ∧ ∀ M3, M3 = wr M x0 0 ((rd M x0 0) * 100) → X G Y_X2_spread d k n 6 [vA x0, vI x1, vI x2, vI (x3 + 1), vU, vU, vU] [] M3 Q))) : X G Y_X2_spread d k n 6 [vA x0, vI x1, vI x2, vI x3, vU, vU, vU] [] M Q := by
  have hd1 : 1 ≤ d := by omega
  refine x_iload_n (dA D_X2_spread 6 rfl) rfl ?_
  refine x_iconst (dA D_X2_spread 7 rfl) ?_
  obtain ⟨h1, h⟩ := h
  refine x_icmp_geP (tgt := 26) (dA D_X2_spread 8 rfl) (by decide) h1 ⟨by decide, by decide⟩ ⟨fun c => ?_, fun c => ?_⟩
  · have h := h.1 c
    refine x_iconst (dA D_X2_spread 18 rfl) ?_
    refine x_istore_n (xs' := [vA x0, vI x1, vI x2, vI 1, vU, vU, vU]) (dA D_X2_spread 19 rfl) (by decide) rfl ?_
    exact h
  · have h := h.2 c
    refine x_aload_n (dA D_X2_spread 9 rfl) rfl ?_
    refine x_iconst (dA D_X2_spread 10 rfl) ?_
    refine x_dup2 (dA D_X2_spread 11 rfl) rfl rfl ?_
    obtain ⟨h2, h⟩ := h
    refine x_lald (dA D_X2_spread 12 rfl) h2 ?_
    refine x_ldc2 (a := 100) (dA D_X2_spread 13 rfl) kl_RX2_23 (by decide) ?_
    refine x_lmul (dA D_X2_spread 14 rfl) ?_
    refine x_last (dA D_X2_spread 15 rfl) h2 ?_
    refine x_nmM (fun M3 eM3 => ?_)
    have h := h M3 eM3
    refine x_iinc (xs' := [vA x0, vI x1, vI x2, vI (x3 + 1), vU, vU, vU]) (dA D_X2_spread 16 rfl) rfl (by decide) rfl ?_
    refine x_goto (tgt := 6) (dA D_X2_spread 17 rfl) (by decide) ?_
    exact h
set_option maxRecDepth 100000 in
theorem B_X2_spread_28 {G : GG} {d : Nat} {k n : Nat} {x0 x1 x2 x3 : Int} {M : MM} {Q : PV → MM → Prop} (hd : 1 ≤ d) (h : inR x3 ∧ inR x1 ∧ ((x1 < x3 → Q vU M) ∧ (x3 ≤ x1 → okA M x0 21 x3 ∧ ∀ M4, M4 = wr M x0 x3 0 → X G Y_X2_spread d k n 40 [vA x0, vI x1, vI x2, vI x3, vI x3, vU, vU] [] M4 Q))) : X G Y_X2_spread d k n 28 [vA x0, vI x1, vI x2, vI x3, vU, vU, vU] [] M Q := by
  have hd1 : 1 ≤ d := by omega
  refine x_iload_n (dA D_X2_spread 20 rfl) rfl ?_
  refine x_iload_n (dA D_X2_spread 21 rfl) rfl ?_
  obtain ⟨h1, h⟩ := h
  obtain ⟨h2, h⟩ := h
  refine x_icmp_gtP (tgt := 94) (dA D_X2_spread 22 rfl) (by decide) h1 h2 ⟨fun c => ?_, fun c => ?_⟩
  · have h := h.1 c
    exact x_return (dA D_X2_spread 61 rfl) rfl h
  · have h := h.2 c
    refine x_aload_n (dA D_X2_spread 23 rfl) rfl ?_
    refine x_iload_n (dA D_X2_spread 24 rfl) rfl ?_
    refine x_lconst (a := 0) (dA D_X2_spread 25 rfl) (by decide) ?_
    obtain ⟨h3, h⟩ := h
    refine x_last (dA D_X2_spread 26 rfl) h3 ?_
    refine x_nmM (fun M4 eM4 => ?_)
    have h := h M4 eM4
    refine x_iload_n (dA D_X2_spread 27 rfl) rfl ?_
    refine x_istore (xs' := [vA x0, vI x1, vI x2, vI x3, vI x3, vU, vU]) (dA D_X2_spread 28 rfl) (by decide) rfl ?_
    exact h
set_option maxRecDepth 100000 in
theorem B_X2_spread_40 {G : GG} {d : Nat} {k n : Nat} {x0 x1 x2 x3 x4 : Int} {M : MM} {Q : PV → MM → Prop} (hd : 1 ≤ d) (h : inR x4 ∧ ((x4 < 0 → X G Y_X2_spread d k n 28 [vA x0, vI x1, vI x2, vI (x3 + 1), vU, vU, vU] [] M Q) ∧ (0 ≤ x4 → ((x4 ≤ 0 → okA M x0 21 x4 ∧ inR (100 - x2) ∧ ∀ M4, M4 = wr M x0 x4 (((rd M x0 x4) * (100 - x2)) + 0) → X G Y_X2_spread d k n 40 [vA x0, vI x1, vI x2, vI x3, vI (x4 + (-1)), vU, vU] [] M4 Q) ∧ (0 < x4 → okA M x0 21 (x4 - 1) ∧ inR x2 ∧ ∀ v7, v7 = (rd M x0 (x4 - 1)) * x2 → okA M x0 21 x4 ∧ inR (100 - x2) ∧ ∀ M10, M10 = wr M x0 x4 (((rd M x0 x4) * (100 - x2)) + v7) → X G Y_X2_spread d k n 40 [vA x0, vI x1, vI x2, vI x3, vI (x4 + (-1)), vU, vU] [] M10 Q))))) : X G Y_X2_spread d k n 40 [vA x0, vI x1, vI x2, vI x3, vI x4, vU, vU] [] M Q := by
  have hd1 : 1 ≤ d := by omega
  refine x_iload (dA D_X2_spread 29 rfl) rfl ?_
  obtain ⟨h1, h⟩ := h
  refine x_if_ltP (tgt := 88) (dA D_X2_spread 30 rfl) (by decide) h1 ⟨fun c => ?_, fun c => ?_⟩
  · have h := h.1 c
    refine x_iinc (xs' := [vA x0, vI x1, vI x2, vI (x3 + 1), vI x4, vU, vU]) (dA D_X2_spread 59 rfl) rfl (by decide) rfl ?_
    refine x_goto (tgt := 28) (dA D_X2_spread 60 rfl) (by decide) ?_
    refine X.weak (xs' := [vA x0, vI x1, vI x2, vI (x3 + 1), vU, vU, vU]) ⟨Or.inl rfl, Or.inl rfl, Or.inl rfl, Or.inl rfl, Or.inr rfl, Or.inl rfl, Or.inl rfl, trivial⟩ ?_
    exact h
  · have h := h.2 c
    refine x_iload (dA D_X2_spread 31 rfl) rfl ?_
    refine x_if_leP (tgt := 62) (dA D_X2_spread 32 rfl) (by decide) h1 ⟨fun c => ?_, fun c => ?_⟩
    · have h := h.1 c
      refine x_lconst (a := 0) (dA D_X2_spread 42 rfl) (by decide) ?_
      refine x_lstore (xs' := [vA x0, vI x1, vI x2, vI x3, vI x4, vL 0, vU]) (dA D_X2_spread 43 rfl) (by decide) rfl ?_
      refine x_aload_n (dA D_X2_spread 44 rfl) rfl ?_
      refine x_iload (dA D_X2_spread 45 rfl) rfl ?_
      refine x_aload_n (dA D_X2_spread 46 rfl) rfl ?_
      refine x_iload (dA D_X2_spread 47 rfl) rfl ?_
      obtain ⟨h2, h⟩ := h
      refine x_lald (dA D_X2_spread 48 rfl) h2 ?_
      refine x_bipush (dA D_X2_spread 49 rfl) (by decide) (by decide) ?_
      refine x_iload_n (dA D_X2_spread 50 rfl) rfl ?_
      refine x_isub (dA D_X2_spread 51 rfl) ?_
      obtain ⟨h3, h⟩ := h
      refine x_i2l (dA D_X2_spread 52 rfl) h3 ?_
      refine x_lmul (dA D_X2_spread 53 rfl) ?_
      refine x_lload (dA D_X2_spread 54 rfl) rfl ?_
      refine x_ladd (dA D_X2_spread 55 rfl) ?_
      refine x_last (dA D_X2_spread 56 rfl) h2 ?_
      refine x_nmM (fun M4 eM4 => ?_)
      have h := h M4 eM4
      refine x_iinc (xs' := [vA x0, vI x1, vI x2, vI x3, vI (x4 + (-1)), vL 0, vU]) (dA D_X2_spread 57 rfl) rfl (by decide) rfl ?_
      refine x_goto (tgt := 40) (dA D_X2_spread 58 rfl) (by decide) ?_
      refine X.weak (xs' := [vA x0, vI x1, vI x2, vI x3, vI (x4 + (-1)), vU, vU]) ⟨Or.inl rfl, Or.inl rfl, Or.inl rfl, Or.inl rfl, Or.inl rfl, Or.inr rfl, Or.inl rfl, trivial⟩ ?_
      exact h
    · have h := h.2 c
      refine x_aload_n (dA D_X2_spread 33 rfl) rfl ?_
      refine x_iload (dA D_X2_spread 34 rfl) rfl ?_
      refine x_iconst (dA D_X2_spread 35 rfl) ?_
      refine x_isub (dA D_X2_spread 36 rfl) ?_
      obtain ⟨h5, h⟩ := h
      refine x_lald (dA D_X2_spread 37 rfl) h5 ?_
      refine x_iload_n (dA D_X2_spread 38 rfl) rfl ?_
      obtain ⟨h6, h⟩ := h
      refine x_i2l (dA D_X2_spread 39 rfl) h6 ?_
      refine x_lmul (dA D_X2_spread 40 rfl) ?_
      refine x_goto (tgt := 63) (dA D_X2_spread 41 rfl) (by decide) ?_
      refine x_nmL (fun v7 ev7 => ?_)
      have h := h v7 ev7
      refine x_lstore (xs' := [vA x0, vI x1, vI x2, vI x3, vI x4, vL v7, vU]) (dA D_X2_spread 43 rfl) (by decide) rfl ?_
      refine x_aload_n (dA D_X2_spread 44 rfl) rfl ?_
      refine x_iload (dA D_X2_spread 45 rfl) rfl ?_
      refine x_aload_n (dA D_X2_spread 46 rfl) rfl ?_
      refine x_iload (dA D_X2_spread 47 rfl) rfl ?_
      obtain ⟨h8, h⟩ := h
      refine x_lald (dA D_X2_spread 48 rfl) h8 ?_
      refine x_bipush (dA D_X2_spread 49 rfl) (by decide) (by decide) ?_
      refine x_iload_n (dA D_X2_spread 50 rfl) rfl ?_
      refine x_isub (dA D_X2_spread 51 rfl) ?_
      obtain ⟨h9, h⟩ := h
      refine x_i2l (dA D_X2_spread 52 rfl) h9 ?_
      refine x_lmul (dA D_X2_spread 53 rfl) ?_
      refine x_lload (dA D_X2_spread 54 rfl) rfl ?_
      refine x_ladd (dA D_X2_spread 55 rfl) ?_
      refine x_last (dA D_X2_spread 56 rfl) h8 ?_
      refine x_nmM (fun M10 eM10 => ?_)
      have h := h M10 eM10
      refine x_iinc (xs' := [vA x0, vI x1, vI x2, vI x3, vI (x4 + (-1)), vL v7, vU]) (dA D_X2_spread 57 rfl) rfl (by decide) rfl ?_
      refine x_goto (tgt := 40) (dA D_X2_spread 58 rfl) (by decide) ?_
      refine X.weak (xs' := [vA x0, vI x1, vI x2, vI x3, vI (x4 + (-1)), vU, vU]) ⟨Or.inl rfl, Or.inl rfl, Or.inl rfl, Or.inl rfl, Or.inl rfl, Or.inr rfl, Or.inl rfl, trivial⟩ ?_
      exact h
set_option maxRecDepth 100000 in
theorem B_X2_addAt_0 {G : GG} {d : Nat} {k n : Nat} {x0 x1 x2 : Int} {M : MM} {Q : PV → MM → Prop} (hd : 1 ≤ d) (h : inR x1 ∧ okA M x0 21 (Int.tdiv x1 8) ∧ 0 ≤ (Int.tmod x1 8) ∧ (Int.tmod x1 8) < 8 ∧ ∀ M5, M5 = wr M x0 (Int.tdiv x1 8) ((rd M x0 (Int.tdiv x1 8)) + (x2 * (tenF (Int.toNat (Int.tmod x1 8))))) → Q vU M5) : X G Y_X2_addAt d k n 0 [vA x0, vI x1, vL x2, vU] [] M Q := by
  have hd1 : 1 ≤ d := by omega
  refine x_aload_n (dA D_X2_addAt 0 rfl) rfl ?_
  refine x_iload_n (dA D_X2_addAt 1 rfl) rfl ?_
  refine x_bipush (dA D_X2_addAt 2 rfl) (by decide) (by decide) ?_
  obtain ⟨h1, h⟩ := h
  refine x_idiv (dA D_X2_addAt 3 rfl) h1 ⟨by decide, by decide⟩ (by decide) ?_
  refine x_dup2 (dA D_X2_addAt 4 rfl) rfl rfl ?_
  obtain ⟨h2, h⟩ := h
  refine x_lald (dA D_X2_addAt 5 rfl) h2 ?_
  refine x_lload_n (dA D_X2_addAt 6 rfl) rfl ?_
  refine x_getsT (dA D_X2_addAt 7 rfl) sf_RX2_9 ?_
  refine x_iload_n (dA D_X2_addAt 8 rfl) rfl ?_
  refine x_bipush (dA D_X2_addAt 9 rfl) (by decide) (by decide) ?_
  refine x_irem (dA D_X2_addAt 10 rfl) h1 ⟨by decide, by decide⟩ (by decide) ?_
  obtain ⟨h3, h⟩ := h
  obtain ⟨h4, h⟩ := h
  refine x_tabT (dA D_X2_addAt 11 rfl) h3 h4 ?_
  refine x_lmul (dA D_X2_addAt 12 rfl) ?_
  refine x_ladd (dA D_X2_addAt 13 rfl) ?_
  refine x_last (dA D_X2_addAt 14 rfl) h2 ?_
  refine x_nmM (fun M5 eM5 => ?_)
  have h := h M5 eM5
  exact x_return (dA D_X2_addAt 15 rfl) rfl h
theorem C_X2_addAt {G : GG} {d : Nat} {x0 x1 x2 : Int} {M : MM} {Q : PV → MM → Prop} (h : X G Y_X2_addAt d 0 0 0 [vA x0, vI x1, vL x2, vU] [] M Q) : C G Y_X2_addAt d 0 0 [vA x0, vI x1, vL x2] M Q := X.entry (by decide) (Nat.le_of_ble_eq_true rfl) rfl rfl rfl h
set_option maxRecDepth 100000 in
theorem B_X4_holds_0 {G : GG} {d : Nat} {k n : Nat} {x0 x1 : Int} {M : MM} {Q : PV → MM → Prop} (hd : 1 ≤ d) (h : inR x1 ∧ Q (vI (if (0 ≤ x1) ∧ ((x1 < 5) ∧ ((iAnd (iShr x0 x1) 1) = 1)) then 1 else 0)) M) : X G Y_X4_holds d k n 0 [vI x0, vI x1] [] M Q := by
  have hd1 : 1 ≤ d := by omega
  refine x_iload_n (dA D_X4_holds 0 rfl) rfl ?_
  obtain ⟨h2, h⟩ := h
  have hJ : X G Y_X4_holds d k n 23 [vI x0, vI x1] [vI (if (0 ≤ x1) ∧ ((x1 < 5) ∧ ((iAnd (iShr x0 x1) 1) = 1)) then 1 else 0)] M Q := by
    exact x_zreturn (dA D_X4_holds 15 rfl) rfl (by split <;> decide) h
  refine x_if_ltP (tgt := 22) (dA D_X4_holds 1 rfl) (by decide) h2 ⟨fun c1 => ?_, fun c1 => ?_⟩
  · refine x_iconst (dA D_X4_holds 14 rfl) ?_
    have e0 : (if (0 ≤ x1) ∧ ((x1 < 5) ∧ ((iAnd (iShr x0 x1) 1) = 1)) then (1 : Int) else 0) = 0 := if_neg (by first | omega | grind)
    rw [e0] at hJ
    exact hJ
  · refine x_iload_n (dA D_X4_holds 2 rfl) rfl ?_
    refine x_iconst (dA D_X4_holds 3 rfl) ?_
    refine x_icmp_geP (tgt := 22) (dA D_X4_holds 4 rfl) (by decide) h2 ⟨by decide, by decide⟩ ⟨fun c6 => ?_, fun c6 => ?_⟩
    · refine x_iconst (dA D_X4_holds 14 rfl) ?_
      have e0 : (if (0 ≤ x1) ∧ ((x1 < 5) ∧ ((iAnd (iShr x0 x1) 1) = 1)) then (1 : Int) else 0) = 0 := if_neg (by first | omega | grind)
      rw [e0] at hJ
      exact hJ
    · refine x_iload_n (dA D_X4_holds 5 rfl) rfl ?_
      refine x_iload_n (dA D_X4_holds 6 rfl) rfl ?_
      refine x_ishr (dA D_X4_holds 7 rfl) ?_
      refine x_iconst (dA D_X4_holds 8 rfl) ?_
      refine x_iand (dA D_X4_holds 9 rfl) ?_
      refine x_iconst (dA D_X4_holds 10 rfl) ?_
      refine x_icmp_neP (tgt := 22) (dA D_X4_holds 11 rfl) (by decide) (inR_iAnd _ _) ⟨by decide, by decide⟩ ⟨fun c14 => ?_, fun c14 => ?_⟩
      · refine x_iconst (dA D_X4_holds 14 rfl) ?_
        have e0 : (if (0 ≤ x1) ∧ ((x1 < 5) ∧ ((iAnd (iShr x0 x1) 1) = 1)) then (1 : Int) else 0) = 0 := if_neg (by first | omega | grind)
        rw [e0] at hJ
        exact hJ
      · refine x_iconst (dA D_X4_holds 12 rfl) ?_
        refine x_goto (tgt := 23) (dA D_X4_holds 13 rfl) (by decide) ?_
        have e0 : (if (0 ≤ x1) ∧ ((x1 < 5) ∧ ((iAnd (iShr x0 x1) 1) = 1)) then (1 : Int) else 0) = 1 := if_pos (by first | omega | grind)
        rw [e0] at hJ
        exact hJ
theorem C_X4_holds {G : GG} {d : Nat} {x0 x1 : Int} {M : MM} {Q : PV → MM → Prop} (h : X G Y_X4_holds d 0 0 0 [vI x0, vI x1] [] M Q) : C G Y_X4_holds d 0 0 [vI x0, vI x1] M Q := X.entry (by decide) (Nat.le_of_ble_eq_true rfl) rfl rfl rfl h
theorem S_X4_holds {G : GG} {d : Nat} {x0 x1 : Int} {M : MM} {Q : PV → MM → Prop} (h0 : inR x1) (hd : 1 ≤ d) (h : Q (vI (if (0 ≤ x1) ∧ ((x1 < 5) ∧ ((iAnd (iShr x0 x1) 1) = 1)) then 1 else 0)) M) : C G Y_X4_holds d 0 0 [vI x0, vI x1] M Q := C_X4_holds (B_X4_holds_0 hd ⟨h0, h⟩)
set_option maxRecDepth 100000 in
theorem B_X4_fitsScene_0 {G : GG} {d : Nat} {k n : Nat} {x0 x1 : Int} {M : MM} {Q : PV → MM → Prop} (hd : 1 ≤ d) (h : inR x0 ∧ ((x0 < 0 ∨ 2 < x0) → Q (vI 0) M) ∧ (x0 = 0 → inR x1 ∧ Q (vI (if (1 ≤ x1) ∧ (x1 ≤ 60) then 1 else 0)) M) ∧ (x0 = 1 → inR x1 ∧ Q (vI (if (0 ≤ x1) ∧ (x1 < 32) then 1 else 0)) M) ∧ (x0 = 2 → inR x1 ∧ Q (vI (if (x1 = 0) ∨ (x1 = 1) then 1 else 0)) M)) : X G Y_X4_fitsScene d k n 0 [vI x0, vI x1] [] M Q := by
  have hd1 : 1 ≤ d := by omega
  refine x_iload_n (dA D_X4_fitsScene 0 rfl) rfl ?_
  obtain ⟨h1, h⟩ := h
  by_cases hz : x0 < 0 ∨ 2 < x0
  · have h := h.1 hz
    refine x_tblO (tgt := 76) (dA D_X4_fitsScene 1 rfl) (by decide) h1 hz ?_
    refine x_iconst (dA D_X4_fitsScene 30 rfl) ?_
    exact x_zreturn (dA D_X4_fitsScene 31 rfl) rfl (by decide) h
  · have h := h.2
    have hq : x0 = 0 ∨ x0 = 1 ∨ x0 = 2 := by omega
    rcases hq with c | c | c
    · have h := h.1 c
      refine x_tblI (off := 27) (tgt := 28) (dA D_X4_fitsScene 1 rfl) h1 (by omega) (by omega) (by rw [c]; rfl) (by decide) ?_
      refine x_iload_n (dA D_X4_fitsScene 2 rfl) rfl ?_
      refine x_iconst (dA D_X4_fitsScene 3 rfl) ?_
      obtain ⟨h3, h⟩ := h
      have hJ : X G Y_X4_fitsScene d k n 44 [vI x0, vI x1] [vI (if (1 ≤ x1) ∧ (x1 ≤ 60) then 1 else 0)] M Q := by
        exact x_zreturn (dA D_X4_fitsScene 11 rfl) rfl (by split <;> decide) h
      refine x_icmp_ltP (tgt := 43) (dA D_X4_fitsScene 4 rfl) (by decide) h3 ⟨by decide, by decide⟩ ⟨fun c2 => ?_, fun c2 => ?_⟩
      · refine x_iconst (dA D_X4_fitsScene 10 rfl) ?_
        have e0 : (if (1 ≤ x1) ∧ (x1 ≤ 60) then (1 : Int) else 0) = 0 := if_neg (by first | omega | grind)
        rw [e0] at hJ
        exact hJ
      · refine x_iload_n (dA D_X4_fitsScene 5 rfl) rfl ?_
        refine x_bipush (dA D_X4_fitsScene 6 rfl) (by decide) (by decide) ?_
        refine x_icmp_gtP (tgt := 43) (dA D_X4_fitsScene 7 rfl) (by decide) h3 ⟨by decide, by decide⟩ ⟨fun c7 => ?_, fun c7 => ?_⟩
        · refine x_iconst (dA D_X4_fitsScene 10 rfl) ?_
          have e0 : (if (1 ≤ x1) ∧ (x1 ≤ 60) then (1 : Int) else 0) = 0 := if_neg (by first | omega | grind)
          rw [e0] at hJ
          exact hJ
        · refine x_iconst (dA D_X4_fitsScene 8 rfl) ?_
          refine x_goto (tgt := 44) (dA D_X4_fitsScene 9 rfl) (by decide) ?_
          have e0 : (if (1 ≤ x1) ∧ (x1 ≤ 60) then (1 : Int) else 0) = 1 := if_pos (by first | omega | grind)
          rw [e0] at hJ
          exact hJ
    · have h := h.2.1 c
      refine x_tblI (off := 44) (tgt := 45) (dA D_X4_fitsScene 1 rfl) h1 (by omega) (by omega) (by rw [c]; rfl) (by decide) ?_
      refine x_iload_n (dA D_X4_fitsScene 12 rfl) rfl ?_
      obtain ⟨h12, h⟩ := h
      have hJ : X G Y_X4_fitsScene d k n 60 [vI x0, vI x1] [vI (if (0 ≤ x1) ∧ (x1 < 32) then 1 else 0)] M Q := by
        exact x_zreturn (dA D_X4_fitsScene 20 rfl) rfl (by split <;> decide) h
      refine x_if_ltP (tgt := 59) (dA D_X4_fitsScene 13 rfl) (by decide) h12 ⟨fun c11 => ?_, fun c11 => ?_⟩
      · refine x_iconst (dA D_X4_fitsScene 19 rfl) ?_
        have e0 : (if (0 ≤ x1) ∧ (x1 < 32) then (1 : Int) else 0) = 0 := if_neg (by first | omega | grind)
        rw [e0] at hJ
        exact hJ
      · refine x_iload_n (dA D_X4_fitsScene 14 rfl) rfl ?_
        refine x_bipush (dA D_X4_fitsScene 15 rfl) (by decide) (by decide) ?_
        refine x_icmp_geP (tgt := 59) (dA D_X4_fitsScene 16 rfl) (by decide) h12 ⟨by decide, by decide⟩ ⟨fun c16 => ?_, fun c16 => ?_⟩
        · refine x_iconst (dA D_X4_fitsScene 19 rfl) ?_
          have e0 : (if (0 ≤ x1) ∧ (x1 < 32) then (1 : Int) else 0) = 0 := if_neg (by first | omega | grind)
          rw [e0] at hJ
          exact hJ
        · refine x_iconst (dA D_X4_fitsScene 17 rfl) ?_
          refine x_goto (tgt := 60) (dA D_X4_fitsScene 18 rfl) (by decide) ?_
          have e0 : (if (0 ≤ x1) ∧ (x1 < 32) then (1 : Int) else 0) = 1 := if_pos (by first | omega | grind)
          rw [e0] at hJ
          exact hJ
    · have h := h.2.2 c
      refine x_tblI (off := 60) (tgt := 61) (dA D_X4_fitsScene 1 rfl) h1 (by omega) (by omega) (by rw [c]; rfl) (by decide) ?_
      refine x_iload_n (dA D_X4_fitsScene 21 rfl) rfl ?_
      obtain ⟨h21, h⟩ := h
      have hJ : X G Y_X4_fitsScene d k n 75 [vI x0, vI x1] [vI (if (x1 = 0) ∨ (x1 = 1) then 1 else 0)] M Q := by
        exact x_zreturn (dA D_X4_fitsScene 29 rfl) rfl (by split <;> decide) h
      refine x_if_eqP (tgt := 70) (dA D_X4_fitsScene 22 rfl) (by decide) h21 ⟨fun c20 => ?_, fun c20 => ?_⟩
      · refine x_iconst (dA D_X4_fitsScene 26 rfl) ?_
        refine x_goto (tgt := 75) (dA D_X4_fitsScene 27 rfl) (by decide) ?_
        have e0 : (if (x1 = 0) ∨ (x1 = 1) then (1 : Int) else 0) = 1 := if_pos (by first | omega | grind)
        rw [e0] at hJ
        exact hJ
      · refine x_iload_n (dA D_X4_fitsScene 23 rfl) rfl ?_
        refine x_iconst (dA D_X4_fitsScene 24 rfl) ?_
        refine x_icmp_neP (tgt := 74) (dA D_X4_fitsScene 25 rfl) (by decide) h21 ⟨by decide, by decide⟩ ⟨fun c26 => ?_, fun c26 => ?_⟩
        · refine x_iconst (dA D_X4_fitsScene 28 rfl) ?_
          have e0 : (if (x1 = 0) ∨ (x1 = 1) then (1 : Int) else 0) = 0 := if_neg (by first | omega | grind)
          rw [e0] at hJ
          exact hJ
        · refine x_iconst (dA D_X4_fitsScene 26 rfl) ?_
          refine x_goto (tgt := 75) (dA D_X4_fitsScene 27 rfl) (by decide) ?_
          have e0 : (if (x1 = 0) ∨ (x1 = 1) then (1 : Int) else 0) = 1 := if_pos (by first | omega | grind)
          rw [e0] at hJ
          exact hJ
theorem C_X4_fitsScene {G : GG} {d : Nat} {x0 x1 : Int} {M : MM} {Q : PV → MM → Prop} (h : X G Y_X4_fitsScene d 0 0 0 [vI x0, vI x1] [] M Q) : C G Y_X4_fitsScene d 0 0 [vI x0, vI x1] M Q := X.entry (by decide) (Nat.le_of_ble_eq_true rfl) rfl rfl rfl h
set_option maxRecDepth 100000 in
theorem B_X4_hasScene_0 {G : GG} {d : Nat} {k n : Nat} {x1 : Int} {M : MM} {Q : PV → MM → Prop} (hd : 1 ≤ d) (hS : Sh M) (h : inR x1 ∧ inR (rd M 1 0) ∧ Q (vI (if (0 ≤ x1) ∧ (x1 < (rd M 1 0)) then 1 else 0)) M) : X G Y_X4_hasScene d k n 0 [vA 1, vI x1] [] M Q := by
  have hd1 : 1 ≤ d := by omega
  refine x_iload_n (dA D_X4_hasScene 0 rfl) rfl ?_
  obtain ⟨h2, h⟩ := h
  obtain ⟨h8, h⟩ := h
  have hJ : X G Y_X4_hasScene d k n 17 [vA 1, vI x1] [vI (if (0 ≤ x1) ∧ (x1 < (rd M 1 0)) then 1 else 0)] M Q := by
    exact x_zreturn (dA D_X4_hasScene 9 rfl) rfl (by split <;> decide) h
  refine x_if_ltP (tgt := 16) (dA D_X4_hasScene 1 rfl) (by decide) h2 ⟨fun c1 => ?_, fun c1 => ?_⟩
  · refine x_iconst (dA D_X4_hasScene 8 rfl) ?_
    have e0 : (if (0 ≤ x1) ∧ (x1 < (rd M 1 0)) then (1 : Int) else 0) = 0 := if_neg (by first | omega | grind)
    rw [e0] at hJ
    exact hJ
  · refine x_iload_n (dA D_X4_hasScene 2 rfl) rfl ?_
    refine x_aload_n (dA D_X4_hasScene 3 rfl) rfl ?_
    refine x_get (v := vI (rd M 1 0)) (dA D_X4_hasScene 4 rfl) fw_RX4_9 (sO_1 hS) rfl ?_
    refine x_icmp_geP (tgt := 16) (dA D_X4_hasScene 5 rfl) (by decide) h2 h8 ⟨fun c7 => ?_, fun c7 => ?_⟩
    · refine x_iconst (dA D_X4_hasScene 8 rfl) ?_
      have e0 : (if (0 ≤ x1) ∧ (x1 < (rd M 1 0)) then (1 : Int) else 0) = 0 := if_neg (by first | omega | grind)
      rw [e0] at hJ
      exact hJ
    · refine x_iconst (dA D_X4_hasScene 6 rfl) ?_
      refine x_goto (tgt := 17) (dA D_X4_hasScene 7 rfl) (by decide) ?_
      have e0 : (if (0 ≤ x1) ∧ (x1 < (rd M 1 0)) then (1 : Int) else 0) = 1 := if_pos (by first | omega | grind)
      rw [e0] at hJ
      exact hJ
theorem C_X4_hasScene {G : GG} {d : Nat} {x1 : Int} {M : MM} {Q : PV → MM → Prop} (h : X G Y_X4_hasScene d 0 0 0 [vA 1, vI x1] [] M Q) : C G Y_X4_hasScene d 0 0 [vA 1, vI x1] M Q := X.entry (by decide) (Nat.le_of_ble_eq_true rfl) rfl rfl rfl h
theorem S_X4_hasScene {G : GG} {d : Nat} {x1 : Int} {M : MM} {Q : PV → MM → Prop} (hS : Sh M) (h0 : inR x1) (h1 : inR (rd M 1 0)) (hd : 1 ≤ d) (h : Q (vI (if (0 ≤ x1) ∧ (x1 < (rd M 1 0)) then 1 else 0)) M) : C G Y_X4_hasScene d 0 0 [vA 1, vI x1] M Q := C_X4_hasScene (B_X4_hasScene_0 hd hS ⟨h0, h1, h⟩)
set_option maxRecDepth 100000 in
theorem B_X4_isEnd_0 {G : GG} {d : Nat} {k n : Nat} {x1 : Int} {M : MM} {Q : PV → MM → Prop} (hd : 1 ≤ d) (hS : Sh M) (h : 0 ≤ x1 ∧ x1 < 5 ∧ inR (rd M 4 x1) ∧ Q (vI (if (rd M 4 x1) = 1 then 1 else 0)) M) : X G Y_X4_isEnd d k n 0 [vA 1, vI x1] [] M Q := by
  have hd1 : 1 ≤ d := by omega
  refine x_aload_n (dA D_X4_isEnd 0 rfl) rfl ?_
  refine x_get (v := vA 4) (dA D_X4_isEnd 1 rfl) fw_RX4_22 (sO_1 hS) (congrArg (rfV G) (sR_1_3 hS)) ?_
  refine x_iload_n (dA D_X4_isEnd 2 rfl) rfl ?_
  obtain ⟨h1, h⟩ := h
  obtain ⟨h2, h⟩ := h
  refine x_iald (dA D_X4_isEnd 3 rfl) (sA_4 hS h1 h2) ?_
  refine x_iconst (dA D_X4_isEnd 4 rfl) ?_
  obtain ⟨h4, h⟩ := h
  have hJ : X G Y_X4_isEnd d k n 15 [vA 1, vI x1] [vI (if (rd M 4 x1) = 1 then 1 else 0)] M Q := by
    exact x_zreturn (dA D_X4_isEnd 9 rfl) rfl (by split <;> decide) h
  refine x_icmp_neP (tgt := 14) (dA D_X4_isEnd 5 rfl) (by decide) h4 ⟨by decide, by decide⟩ ⟨fun c3 => ?_, fun c3 => ?_⟩
  · refine x_iconst (dA D_X4_isEnd 8 rfl) ?_
    have e0 : (if (rd M 4 x1) = 1 then (1 : Int) else 0) = 0 := if_neg (by first | omega | grind)
    rw [e0] at hJ
    exact hJ
  · refine x_iconst (dA D_X4_isEnd 6 rfl) ?_
    refine x_goto (tgt := 15) (dA D_X4_isEnd 7 rfl) (by decide) ?_
    have e0 : (if (rd M 4 x1) = 1 then (1 : Int) else 0) = 1 := if_pos (by first | omega | grind)
    rw [e0] at hJ
    exact hJ
theorem C_X4_isEnd {G : GG} {d : Nat} {x1 : Int} {M : MM} {Q : PV → MM → Prop} (h : X G Y_X4_isEnd d 0 0 0 [vA 1, vI x1] [] M Q) : C G Y_X4_isEnd d 0 0 [vA 1, vI x1] M Q := X.entry (by decide) (Nat.le_of_ble_eq_true rfl) rfl rfl rfl h
theorem S_X4_isEnd {G : GG} {d : Nat} {x1 : Int} {M : MM} {Q : PV → MM → Prop} (hS : Sh M) (h0 : 0 ≤ x1) (h1 : x1 < 5) (h2 : inR (rd M 4 x1)) (hd : 1 ≤ d) (h : Q (vI (if (rd M 4 x1) = 1 then 1 else 0)) M) : C G Y_X4_isEnd d 0 0 [vA 1, vI x1] M Q := C_X4_isEnd (B_X4_isEnd_0 hd hS ⟨h0, h1, h2, h⟩)
set_option maxRecDepth 100000 in
theorem B_X4_isSet_0 {G : GG} {d : Nat} {k n : Nat} {x1 : Int} {M : MM} {Q : PV → MM → Prop} (hd : 1 ≤ d) (hS : Sh M) (h : inR x1 ∧ Q (vI (if (0 ≤ x1) ∧ (x1 < (iShl 1 (rd M 1 0))) then 1 else 0)) M) : X G Y_X4_isSet d k n 0 [vA 1, vI x1] [] M Q := by
  have hd1 : 1 ≤ d := by omega
  refine x_iload_n (dA D_X4_isSet 0 rfl) rfl ?_
  obtain ⟨h2, h⟩ := h
  have hJ : X G Y_X4_isSet d k n 19 [vA 1, vI x1] [vI (if (0 ≤ x1) ∧ (x1 < (iShl 1 (rd M 1 0))) then 1 else 0)] M Q := by
    exact x_zreturn (dA D_X4_isSet 11 rfl) rfl (by split <;> decide) h
  refine x_if_ltP (tgt := 18) (dA D_X4_isSet 1 rfl) (by decide) h2 ⟨fun c1 => ?_, fun c1 => ?_⟩
  · refine x_iconst (dA D_X4_isSet 10 rfl) ?_
    have e0 : (if (0 ≤ x1) ∧ (x1 < (iShl 1 (rd M 1 0))) then (1 : Int) else 0) = 0 := if_neg (by first | omega | grind)
    rw [e0] at hJ
    exact hJ
  · refine x_iload_n (dA D_X4_isSet 2 rfl) rfl ?_
    refine x_iconst (dA D_X4_isSet 3 rfl) ?_
    refine x_aload_n (dA D_X4_isSet 4 rfl) rfl ?_
    refine x_get (v := vI (rd M 1 0)) (dA D_X4_isSet 5 rfl) fw_RX4_9 (sO_1 hS) rfl ?_
    refine x_ishl (dA D_X4_isSet 6 rfl) ?_
    refine x_icmp_geP (tgt := 18) (dA D_X4_isSet 7 rfl) (by decide) h2 (inR_iShl _ _) ⟨fun c9 => ?_, fun c9 => ?_⟩
    · refine x_iconst (dA D_X4_isSet 10 rfl) ?_
      have e0 : (if (0 ≤ x1) ∧ (x1 < (iShl 1 (rd M 1 0))) then (1 : Int) else 0) = 0 := if_neg (by first | omega | grind)
      rw [e0] at hJ
      exact hJ
    · refine x_iconst (dA D_X4_isSet 8 rfl) ?_
      refine x_goto (tgt := 19) (dA D_X4_isSet 9 rfl) (by decide) ?_
      have e0 : (if (0 ≤ x1) ∧ (x1 < (iShl 1 (rd M 1 0))) then (1 : Int) else 0) = 1 := if_pos (by first | omega | grind)
      rw [e0] at hJ
      exact hJ
theorem C_X4_isSet {G : GG} {d : Nat} {x1 : Int} {M : MM} {Q : PV → MM → Prop} (h : X G Y_X4_isSet d 0 0 0 [vA 1, vI x1] [] M Q) : C G Y_X4_isSet d 0 0 [vA 1, vI x1] M Q := X.entry (by decide) (Nat.le_of_ble_eq_true rfl) rfl rfl rfl h
theorem S_X4_isSet {G : GG} {d : Nat} {x1 : Int} {M : MM} {Q : PV → MM → Prop} (hS : Sh M) (h0 : inR x1) (hd : 1 ≤ d) (h : Q (vI (if (0 ≤ x1) ∧ (x1 < (iShl 1 (rd M 1 0))) then 1 else 0)) M) : C G Y_X4_isSet d 0 0 [vA 1, vI x1] M Q := C_X4_isSet (B_X4_isSet_0 hd hS ⟨h0, h⟩)
set_option maxRecDepth 100000 in
theorem B_X4_minutesOf_0 {G : GG} {d : Nat} {k n : Nat} {x1 : Int} {M : MM} {Q : PV → MM → Prop} (hd : 1 ≤ d) (hS : Sh M) (h : X G Y_X4_minutesOf d k n 4 [vA 1, vI x1, vI 0, vI 0] [] M Q) : X G Y_X4_minutesOf d k n 0 [vA 1, vI x1, vU, vU] [] M Q := by
  have hd1 : 1 ≤ d := by omega
  refine x_iconst (dA D_X4_minutesOf 0 rfl) ?_
  refine x_istore_n (xs' := [vA 1, vI x1, vI 0, vU]) (dA D_X4_minutesOf 1 rfl) (by decide) rfl ?_
  refine x_iconst (dA D_X4_minutesOf 2 rfl) ?_
  refine x_istore_n (xs' := [vA 1, vI x1, vI 0, vI 0]) (dA D_X4_minutesOf 3 rfl) (by decide) rfl ?_
  exact h
theorem C_X4_minutesOf {G : GG} {d : Nat} {x1 : Int} {M : MM} {Q : PV → MM → Prop} (h : X G Y_X4_minutesOf d 0 0 0 [vA 1, vI x1, vU, vU] [] M Q) : C G Y_X4_minutesOf d 0 0 [vA 1, vI x1] M Q := X.entry (by decide) (Nat.le_of_ble_eq_true rfl) rfl rfl rfl h
set_option maxRecDepth 100000 in
theorem B_X4_minutesOf_4 {G : GG} {d : Nat} {k n : Nat} {x1 x2 x3 : Int} {M : MM} {Q : PV → MM → Prop} (hd : 1 ≤ d) (hS : Sh M) (h : inR x3 ∧ inR (rd M 1 0) ∧ (((rd M 1 0) ≤ x3 → Q (vI x2) M) ∧ (x3 < (rd M 1 0) → (((iAnd (iShr x1 x3) 1) ≠ 1 → X G Y_X4_minutesOf d k n 4 [vA 1, vI x1, vI x2, vI (x3 + 1)] [] M Q) ∧ ((iAnd (iShr x1 x3) 1) = 1 → 0 ≤ x3 ∧ x3 < 5 ∧ ∀ v5, v5 = x2 + (rd M 2 x3) → X G Y_X4_minutesOf d k n 4 [vA 1, vI x1, vI v5, vI (x3 + 1)] [] M Q))))) : X G Y_X4_minutesOf d k n 4 [vA 1, vI x1, vI x2, vI x3] [] M Q := by
  have hd1 : 1 ≤ d := by omega
  refine x_iload_n (dA D_X4_minutesOf 4 rfl) rfl ?_
  refine x_aload_n (dA D_X4_minutesOf 5 rfl) rfl ?_
  refine x_get (v := vI (rd M 1 0)) (dA D_X4_minutesOf 6 rfl) fw_RX4_9 (sO_1 hS) rfl ?_
  obtain ⟨h1, h⟩ := h
  obtain ⟨h2, h⟩ := h
  refine x_icmp_geP (tgt := 36) (dA D_X4_minutesOf 7 rfl) (by decide) h1 h2 ⟨fun c => ?_, fun c => ?_⟩
  · have h := h.1 c
    refine x_iload_n (dA D_X4_minutesOf 24 rfl) rfl ?_
    exact x_ireturn (dA D_X4_minutesOf 25 rfl) rfl h
  · have h := h.2 c
    refine x_iload_n (dA D_X4_minutesOf 8 rfl) rfl ?_
    refine x_iload_n (dA D_X4_minutesOf 9 rfl) rfl ?_
    refine x_ishr (dA D_X4_minutesOf 10 rfl) ?_
    refine x_iconst (dA D_X4_minutesOf 11 rfl) ?_
    refine x_iand (dA D_X4_minutesOf 12 rfl) ?_
    refine x_iconst (dA D_X4_minutesOf 13 rfl) ?_
    refine x_icmp_neP (tgt := 30) (dA D_X4_minutesOf 14 rfl) (by decide) (inR_iAnd _ _) ⟨by decide, by decide⟩ ⟨fun c => ?_, fun c => ?_⟩
    · have h := h.1 c
      refine x_iinc (xs' := [vA 1, vI x1, vI x2, vI (x3 + 1)]) (dA D_X4_minutesOf 22 rfl) rfl (by decide) rfl ?_
      refine x_goto (tgt := 4) (dA D_X4_minutesOf 23 rfl) (by decide) ?_
      exact h
    · have h := h.2 c
      refine x_iload_n (dA D_X4_minutesOf 15 rfl) rfl ?_
      refine x_aload_n (dA D_X4_minutesOf 16 rfl) rfl ?_
      refine x_get (v := vA 2) (dA D_X4_minutesOf 17 rfl) fw_RX4_15 (sO_1 hS) (congrArg (rfV G) (sR_1_1 hS)) ?_
      refine x_iload_n (dA D_X4_minutesOf 18 rfl) rfl ?_
      obtain ⟨h3, h⟩ := h
      obtain ⟨h4, h⟩ := h
      refine x_iald (dA D_X4_minutesOf 19 rfl) (sA_2 hS h3 h4) ?_
      refine x_iadd (dA D_X4_minutesOf 20 rfl) ?_
      refine x_nmI (fun v5 ev5 => ?_)
      have h := h v5 ev5
      refine x_istore_n (xs' := [vA 1, vI x1, vI v5, vI x3]) (dA D_X4_minutesOf 21 rfl) (by decide) rfl ?_
      refine x_iinc (xs' := [vA 1, vI x1, vI v5, vI (x3 + 1)]) (dA D_X4_minutesOf 22 rfl) rfl (by decide) rfl ?_
      refine x_goto (tgt := 4) (dA D_X4_minutesOf 23 rfl) (by decide) ?_
      exact h
set_option maxRecDepth 100000 in
theorem B_X4_booked_0 {G : GG} {d : Nat} {k n : Nat} {x1 : Int} {M : MM} {Q : PV → MM → Prop} (hd : 1 ≤ d) (hS : Sh M) (h : X G Y_X4_booked d k n 2 [vA 1, vI x1, vI 0] [] M Q) : X G Y_X4_booked d k n 0 [vA 1, vI x1, vU] [] M Q := by
  have hd1 : 1 ≤ d := by omega
  refine x_iconst (dA D_X4_booked 0 rfl) ?_
  refine x_istore_n (xs' := [vA 1, vI x1, vI 0]) (dA D_X4_booked 1 rfl) (by decide) rfl ?_
  exact h
theorem C_X4_booked {G : GG} {d : Nat} {x1 : Int} {M : MM} {Q : PV → MM → Prop} (h : X G Y_X4_booked d 0 0 0 [vA 1, vI x1, vU] [] M Q) : C G Y_X4_booked d 0 0 [vA 1, vI x1] M Q := X.entry (by decide) (Nat.le_of_ble_eq_true rfl) rfl rfl rfl h
set_option maxRecDepth 100000 in
theorem B_X4_booked_2 {G : GG} {d : Nat} {k n : Nat} {x1 x2 : Int} {M : MM} {Q : PV → MM → Prop} (hd : 1 ≤ d) (hS : Sh M) (h : inR x2 ∧ inR (rd M 1 12) ∧ (((rd M 1 12) ≤ x2 → Q (vI 0) M) ∧ (x2 < (rd M 1 12) → 0 ≤ x2 ∧ x2 < 5 ∧ inR (rd M 10 x2) ∧ inR x1 ∧ (((rd M 10 x2) ≠ x1 → X G Y_X4_booked d k n 2 [vA 1, vI x1, vI (x2 + 1)] [] M Q) ∧ ((rd M 10 x2) = x1 → Q (vI 1) M))))) : X G Y_X4_booked d k n 2 [vA 1, vI x1, vI x2] [] M Q := by
  have hd1 : 1 ≤ d := by omega
  refine x_iload_n (dA D_X4_booked 2 rfl) rfl ?_
  refine x_aload_n (dA D_X4_booked 3 rfl) rfl ?_
  refine x_get (v := vI (rd M 1 12)) (dA D_X4_booked 4 rfl) fw_RX4_52 (sO_1 hS) rfl ?_
  obtain ⟨h1, h⟩ := h
  obtain ⟨h2, h⟩ := h
  refine x_icmp_geP (tgt := 28) (dA D_X4_booked 5 rfl) (by decide) h1 h2 ⟨fun c => ?_, fun c => ?_⟩
  · have h := h.1 c
    refine x_iconst (dA D_X4_booked 16 rfl) ?_
    exact x_zreturn (dA D_X4_booked 17 rfl) rfl (by decide) h
  · have h := h.2 c
    refine x_aload_n (dA D_X4_booked 6 rfl) rfl ?_
    refine x_get (v := vA 10) (dA D_X4_booked 7 rfl) fw_RX4_49 (sO_1 hS) (congrArg (rfV G) (sR_1_11 hS)) ?_
    refine x_iload_n (dA D_X4_booked 8 rfl) rfl ?_
    obtain ⟨h3, h⟩ := h
    obtain ⟨h4, h⟩ := h
    refine x_iald (dA D_X4_booked 9 rfl) (sA_10 hS h3 h4) ?_
    refine x_iload_n (dA D_X4_booked 10 rfl) rfl ?_
    obtain ⟨h5, h⟩ := h
    obtain ⟨h6, h⟩ := h
    refine x_icmp_neP (tgt := 22) (dA D_X4_booked 11 rfl) (by decide) h5 h6 ⟨fun c => ?_, fun c => ?_⟩
    · have h := h.1 c
      refine x_iinc (xs' := [vA 1, vI x1, vI (x2 + 1)]) (dA D_X4_booked 14 rfl) rfl (by decide) rfl ?_
      refine x_goto (tgt := 2) (dA D_X4_booked 15 rfl) (by decide) ?_
      exact h
    · have h := h.2 c
      refine x_iconst (dA D_X4_booked 12 rfl) ?_
      exact x_zreturn (dA D_X4_booked 13 rfl) rfl (by decide) h
set_option maxRecDepth 100000 in
theorem B_X4_headsCould_0 {G : GG} {d : Nat} {k n : Nat} {x1 x2 : Int} {M : MM} {Q : PV → MM → Prop} (hd : 1 ≤ d) (hS : Sh M) (h : inR (rd M 1 13) ∧ inR (rd M 1 16) ∧ (((((rd M 1 13) = 0) ∨ ((rd M 1 16) = 5)) → Q (vI 0) M) ∧ (¬ (((rd M 1 13) = 0) ∨ ((rd M 1 16) = 5)) → 0 ≤ (rd M 1 16) ∧ (rd M 1 16) < 6 ∧ inR x2 ∧ inR (rd M 11 (rd M 1 16)) ∧ ((x2 ≤ (rd M 11 (rd M 1 16)) → X G Y_X4_headsCould d k n 32 [vA 1, vI x1, vI x2, vI 0] [] M Q) ∧ ((rd M 11 (rd M 1 16)) < x2 → Q (vI 0) M))))) : X G Y_X4_headsCould d k n 0 [vA 1, vI x1, vI x2, vU] [] M Q := by
  have hd1 : 1 ≤ d := by omega
  refine x_aload_n (dA D_X4_headsCould 0 rfl) rfl ?_
  refine x_get (v := vI (rd M 1 13)) (dA D_X4_headsCould 1 rfl) fw_RX4_55 (sO_1 hS) rfl ?_
  obtain ⟨h2, h⟩ := h
  obtain ⟨h7, h⟩ := h
  have hA : (((rd M 1 13) = 0) ∨ ((rd M 1 16) = 5)) → X G Y_X4_headsCould d k n 28 [vA 1, vI x1, vI x2, vU] [] M Q := by
    intro c18
    have h := h.1 c18
    refine x_iconst (dA D_X4_headsCould 14 rfl) ?_
    exact x_zreturn (dA D_X4_headsCould 15 rfl) rfl (by decide) h
  have hB : ¬ (((rd M 1 13) = 0) ∨ ((rd M 1 16) = 5)) → X G Y_X4_headsCould d k n 15 [vA 1, vI x1, vI x2, vU] [] M Q := by
    intro c18
    have h := h.2 c18
    refine x_iload_n (dA D_X4_headsCould 7 rfl) rfl ?_
    refine x_aload_n (dA D_X4_headsCould 8 rfl) rfl ?_
    refine x_get (v := vA 11) (dA D_X4_headsCould 9 rfl) fw_RX4_59 (sO_1 hS) (congrArg (rfV G) (sR_1_14 hS)) ?_
    refine x_aload_n (dA D_X4_headsCould 10 rfl) rfl ?_
    refine x_get (v := vI (rd M 1 16)) (dA D_X4_headsCould 11 rfl) fw_RX4_65 (sO_1 hS) rfl ?_
    obtain ⟨h14, h⟩ := h
    obtain ⟨h15, h⟩ := h
    refine x_iald (dA D_X4_headsCould 12 rfl) (sA_11 hS h14 h15) ?_
    obtain ⟨h16, h⟩ := h
    obtain ⟨h17, h⟩ := h
    refine x_icmp_leP (tgt := 30) (dA D_X4_headsCould 13 rfl) (by decide) h16 h17 ⟨fun c => ?_, fun c => ?_⟩
    · have h := h.1 c
      refine x_iconst (dA D_X4_headsCould 16 rfl) ?_
      refine x_istore_n (xs' := [vA 1, vI x1, vI x2, vI 0]) (dA D_X4_headsCould 17 rfl) (by decide) rfl ?_
      exact h
    · have h := h.2 c
      refine x_iconst (dA D_X4_headsCould 14 rfl) ?_
      exact x_zreturn (dA D_X4_headsCould 15 rfl) rfl (by decide) h
  refine x_if_eqP (tgt := 28) (dA D_X4_headsCould 2 rfl) (by decide) h2 ⟨fun c1 => ?_, fun c1 => ?_⟩
  · exact hA (by first | omega | grind)
  · refine x_aload_n (dA D_X4_headsCould 3 rfl) rfl ?_
    refine x_get (v := vI (rd M 1 16)) (dA D_X4_headsCould 4 rfl) fw_RX4_65 (sO_1 hS) rfl ?_
    refine x_iconst (dA D_X4_headsCould 5 rfl) ?_
    refine x_icmp_eqP (tgt := 28) (dA D_X4_headsCould 6 rfl) (by decide) h7 ⟨by decide, by decide⟩ ⟨fun c6 => ?_, fun c6 => ?_⟩
    · exact hA (by first | omega | grind)
    · exact hB (by first | omega | grind)
theorem C_X4_headsCould {G : GG} {d : Nat} {x1 x2 : Int} {M : MM} {Q : PV → MM → Prop} (h : X G Y_X4_headsCould d 0 0 0 [vA 1, vI x1, vI x2, vU] [] M Q) : C G Y_X4_headsCould d 0 0 [vA 1, vI x1, vI x2] M Q := X.entry (by decide) (Nat.le_of_ble_eq_true rfl) rfl rfl rfl h
set_option maxRecDepth 100000 in
theorem B_X4_headsCould_32 {G : GG} {d : Nat} {k n : Nat} {x1 x2 x3 : Int} {M : MM} {Q : PV → MM → Prop} (hd : 1 ≤ d) (hS : Sh M) (h : inR x3 ∧ inR (rd M 1 16) ∧ (((rd M 1 16) ≤ x3 → Q (vI 1) M) ∧ (x3 < (rd M 1 16) → 0 ≤ x3 ∧ x3 < 5 ∧ inR (rd M 12 x3) ∧ inR x1 ∧ (((rd M 12 x3) ≠ x1 → X G Y_X4_headsCould d k n 32 [vA 1, vI x1, vI x2, vI (x3 + 1)] [] M Q) ∧ ((rd M 12 x3) = x1 → Q (vI 0) M))))) : X G Y_X4_headsCould d k n 32 [vA 1, vI x1, vI x2, vI x3] [] M Q := by
  have hd1 : 1 ≤ d := by omega
  refine x_iload_n (dA D_X4_headsCould 18 rfl) rfl ?_
  refine x_aload_n (dA D_X4_headsCould 19 rfl) rfl ?_
  refine x_get (v := vI (rd M 1 16)) (dA D_X4_headsCould 20 rfl) fw_RX4_65 (sO_1 hS) rfl ?_
  obtain ⟨h1, h⟩ := h
  obtain ⟨h2, h⟩ := h
  refine x_icmp_geP (tgt := 58) (dA D_X4_headsCould 21 rfl) (by decide) h1 h2 ⟨fun c => ?_, fun c => ?_⟩
  · have h := h.1 c
    refine x_iconst (dA D_X4_headsCould 32 rfl) ?_
    exact x_zreturn (dA D_X4_headsCould 33 rfl) rfl (by decide) h
  · have h := h.2 c
    refine x_aload_n (dA D_X4_headsCould 22 rfl) rfl ?_
    refine x_get (v := vA 12) (dA D_X4_headsCould 23 rfl) fw_RX4_62 (sO_1 hS) (congrArg (rfV G) (sR_1_15 hS)) ?_
    refine x_iload_n (dA D_X4_headsCould 24 rfl) rfl ?_
    obtain ⟨h3, h⟩ := h
    obtain ⟨h4, h⟩ := h
    refine x_iald (dA D_X4_headsCould 25 rfl) (sA_12 hS h3 h4) ?_
    refine x_iload_n (dA D_X4_headsCould 26 rfl) rfl ?_
    obtain ⟨h5, h⟩ := h
    obtain ⟨h6, h⟩ := h
    refine x_icmp_neP (tgt := 52) (dA D_X4_headsCould 27 rfl) (by decide) h5 h6 ⟨fun c => ?_, fun c => ?_⟩
    · have h := h.1 c
      refine x_iinc (xs' := [vA 1, vI x1, vI x2, vI (x3 + 1)]) (dA D_X4_headsCould 30 rfl) rfl (by decide) rfl ?_
      refine x_goto (tgt := 32) (dA D_X4_headsCould 31 rfl) (by decide) ?_
      exact h
    · have h := h.2 c
      refine x_iconst (dA D_X4_headsCould 28 rfl) ?_
      exact x_zreturn (dA D_X4_headsCould 29 rfl) rfl (by decide) h
set_option maxRecDepth 100000 in
theorem B_X4_addScene_0 {G : GG} {d : Nat} {k n : Nat} {x1 x2 x3 : Int} {M : MM} {Q : PV → MM → Prop} (hd : 1 ≤ d) (hS : Sh M) (h : 0 ≤ (rd M 1 0) ∧ (rd M 1 0) < 5 ∧ ∀ M3, M3 = wr M 2 (rd M 1 0) x1 → Sh M3 → 0 ≤ (rd M3 1 0) ∧ (rd M3 1 0) < 5 ∧ ∀ M6, M6 = wr M3 3 (rd M3 1 0) x2 → Sh M6 → 0 ≤ (rd M6 1 0) ∧ (rd M6 1 0) < 5 ∧ ∀ M9, M9 = wr M6 4 (rd M6 1 0) x3 → Sh M9 → ∀ M10, M10 = wr M9 1 0 ((rd M9 1 0) + 1) → Sh M10 → Q vU M10) : X G Y_X4_addScene d k n 0 [vA 1, vI x1, vI x2, vI x3] [] M Q := by
  have hd1 : 1 ≤ d := by omega
  refine x_aload_n (dA D_X4_addScene 0 rfl) rfl ?_
  refine x_get (v := vA 2) (dA D_X4_addScene 1 rfl) fw_RX4_15 (sO_1 hS) (congrArg (rfV G) (sR_1_1 hS)) ?_
  refine x_aload_n (dA D_X4_addScene 2 rfl) rfl ?_
  refine x_get (v := vI (rd M 1 0)) (dA D_X4_addScene 3 rfl) fw_RX4_9 (sO_1 hS) rfl ?_
  refine x_iload_n (dA D_X4_addScene 4 rfl) rfl ?_
  obtain ⟨h1, h⟩ := h
  obtain ⟨h2, h⟩ := h
  refine x_iast (dA D_X4_addScene 5 rfl) (sA_2 hS h1 h2) ?_
  refine x_nmM (fun M3 eM3 => ?_)
  have hM3 : Sh M3 := eM3 ▸ (sW_2 hS)
  have h := h M3 eM3 hM3
  refine x_aload_n (dA D_X4_addScene 6 rfl) rfl ?_
  refine x_get (v := vA 3) (dA D_X4_addScene 7 rfl) fw_RX4_19 (sO_1 hM3) (congrArg (rfV G) (sR_1_2 hM3)) ?_
  refine x_aload_n (dA D_X4_addScene 8 rfl) rfl ?_
  refine x_get (v := vI (rd M3 1 0)) (dA D_X4_addScene 9 rfl) fw_RX4_9 (sO_1 hM3) rfl ?_
  refine x_iload_n (dA D_X4_addScene 10 rfl) rfl ?_
  obtain ⟨h4, h⟩ := h
  obtain ⟨h5, h⟩ := h
  refine x_iast (dA D_X4_addScene 11 rfl) (sA_3 hM3 h4 h5) ?_
  refine x_nmM (fun M6 eM6 => ?_)
  have hM6 : Sh M6 := eM6 ▸ (sW_3 hM3)
  have h := h M6 eM6 hM6
  refine x_aload_n (dA D_X4_addScene 12 rfl) rfl ?_
  refine x_get (v := vA 4) (dA D_X4_addScene 13 rfl) fw_RX4_22 (sO_1 hM6) (congrArg (rfV G) (sR_1_3 hM6)) ?_
  refine x_aload_n (dA D_X4_addScene 14 rfl) rfl ?_
  refine x_get (v := vI (rd M6 1 0)) (dA D_X4_addScene 15 rfl) fw_RX4_9 (sO_1 hM6) rfl ?_
  refine x_iload_n (dA D_X4_addScene 16 rfl) rfl ?_
  obtain ⟨h7, h⟩ := h
  obtain ⟨h8, h⟩ := h
  refine x_iast (dA D_X4_addScene 17 rfl) (sA_4 hM6 h7 h8) ?_
  refine x_nmM (fun M9 eM9 => ?_)
  have hM9 : Sh M9 := eM9 ▸ (sW_4 hM6)
  have h := h M9 eM9 hM9
  refine x_aload_n (dA D_X4_addScene 18 rfl) rfl ?_
  refine x_dup (dA D_X4_addScene 19 rfl) rfl ?_
  refine x_get (v := vI (rd M9 1 0)) (dA D_X4_addScene 20 rfl) fw_RX4_9 (sO_1 hM9) rfl ?_
  refine x_iconst (dA D_X4_addScene 21 rfl) ?_
  refine x_iadd (dA D_X4_addScene 22 rfl) ?_
  refine x_put (x := (rd M9 1 0) + 1) (dA D_X4_addScene 23 rfl) fw_RX4_9 (fun _ _ hc => by cases hc; exact Or.inl rfl) (sO_1 hM9) rfl rfl rfl ?_
  refine x_nmM (fun M10 eM10 => ?_)
  have hM10 : Sh M10 := eM10 ▸ (sW_1_0 hM9)
  have h := h M10 eM10 hM10
  exact x_return (dA D_X4_addScene 24 rfl) rfl h
theorem C_X4_addScene {G : GG} {d : Nat} {x1 x2 x3 : Int} {M : MM} {Q : PV → MM → Prop} (h : X G Y_X4_addScene d 0 0 0 [vA 1, vI x1, vI x2, vI x3] [] M Q) : C G Y_X4_addScene d 0 0 [vA 1, vI x1, vI x2, vI x3] M Q := X.entry (by decide) (Nat.le_of_ble_eq_true rfl) rfl rfl rfl h
set_option maxRecDepth 100000 in
theorem B_X8_nodeOf_0 {G : GG} {d : Nat} {k n : Nat} {x0 x1 : Int} {M : MM} {Q : PV → MM → Prop} (hd : 1 ≤ d) (h : Q (vI (((x0 * 5) + x1) + 1)) M) : X G Y_X8_nodeOf d k n 0 [vI x0, vI x1] [] M Q := by
  have hd1 : 1 ≤ d := by omega
  refine x_iload_n (dA D_X8_nodeOf 0 rfl) rfl ?_
  refine x_iconst (dA D_X8_nodeOf 1 rfl) ?_
  refine x_imul (dA D_X8_nodeOf 2 rfl) ?_
  refine x_iload_n (dA D_X8_nodeOf 3 rfl) rfl ?_
  refine x_iadd (dA D_X8_nodeOf 4 rfl) ?_
  refine x_iconst (dA D_X8_nodeOf 5 rfl) ?_
  refine x_iadd (dA D_X8_nodeOf 6 rfl) ?_
  exact x_ireturn (dA D_X8_nodeOf 7 rfl) rfl h
theorem C_X8_nodeOf {G : GG} {d : Nat} {x0 x1 : Int} {M : MM} {Q : PV → MM → Prop} (h : X G Y_X8_nodeOf d 0 0 0 [vI x0, vI x1] [] M Q) : C G Y_X8_nodeOf d 0 0 [vI x0, vI x1] M Q := X.entry (by decide) (Nat.le_of_ble_eq_true rfl) rfl rfl rfl h
theorem S_X8_nodeOf {G : GG} {d : Nat} {x0 x1 : Int} {M : MM} {Q : PV → MM → Prop} (hd : 1 ≤ d) (h : Q (vI (((x0 * 5) + x1) + 1)) M) : C G Y_X8_nodeOf d 0 0 [vI x0, vI x1] M Q := C_X8_nodeOf (B_X8_nodeOf_0 hd h)
set_option maxRecDepth 100000 in
theorem B_X8_crowdOf_0 {G : GG} {d : Nat} {k n : Nat} {x0 x1 : Int} {M : MM} {Q : PV → MM → Prop} (hd : 1 ≤ d) (h : Q (vI ((x0 * 6) + x1)) M) : X G Y_X8_crowdOf d k n 0 [vI x0, vI x1] [] M Q := by
  have hd1 : 1 ≤ d := by omega
  refine x_iload_n (dA D_X8_crowdOf 0 rfl) rfl ?_
  refine x_bipush (dA D_X8_crowdOf 1 rfl) (by decide) (by decide) ?_
  refine x_imul (dA D_X8_crowdOf 2 rfl) ?_
  refine x_iload_n (dA D_X8_crowdOf 3 rfl) rfl ?_
  refine x_iadd (dA D_X8_crowdOf 4 rfl) ?_
  exact x_ireturn (dA D_X8_crowdOf 5 rfl) rfl h
theorem C_X8_crowdOf {G : GG} {d : Nat} {x0 x1 : Int} {M : MM} {Q : PV → MM → Prop} (h : X G Y_X8_crowdOf d 0 0 0 [vI x0, vI x1] [] M Q) : C G Y_X8_crowdOf d 0 0 [vI x0, vI x1] M Q := X.entry (by decide) (Nat.le_of_ble_eq_true rfl) rfl rfl rfl h
theorem S_X8_crowdOf {G : GG} {d : Nat} {x0 x1 : Int} {M : MM} {Q : PV → MM → Prop} (hd : 1 ≤ d) (h : Q (vI ((x0 * 6) + x1)) M) : C G Y_X8_crowdOf d 0 0 [vI x0, vI x1] M Q := C_X8_crowdOf (B_X8_crowdOf_0 hd h)
set_option maxRecDepth 100000 in
theorem B_X8_chanceOf_0 {G : GG} {d : Nat} {k n : Nat} {x0 x1 : Int} {M : MM} {Q : PV → MM → Prop} (hd : 1 ≤ d) (h : inR x1 ∧ Q (vI (iAnd (if x1 ≠ 0 then (iShr x0 8) else x0) 127)) M) : X G Y_X8_chanceOf d k n 0 [vI x0, vI x1] [] M Q := by
  have hd1 : 1 ≤ d := by omega
  refine x_iload_n (dA D_X8_chanceOf 0 rfl) rfl ?_
  obtain ⟨h2, h⟩ := h
  have hJ : X G Y_X8_chanceOf d k n 12 [vI x0, vI x1] [vI (if x1 ≠ 0 then (iShr x0 8) else x0)] M Q := by
    refine x_bipush (dA D_X8_chanceOf 7 rfl) (by decide) (by decide) ?_
    refine x_iand (dA D_X8_chanceOf 8 rfl) ?_
    exact x_ireturn (dA D_X8_chanceOf 9 rfl) rfl h
  refine x_if_neP (tgt := 8) (dA D_X8_chanceOf 1 rfl) (by decide) h2 ⟨fun c1 => ?_, fun c1 => ?_⟩
  · refine x_iload_n (dA D_X8_chanceOf 4 rfl) rfl ?_
    refine x_bipush (dA D_X8_chanceOf 5 rfl) (by decide) (by decide) ?_
    refine x_ishr (dA D_X8_chanceOf 6 rfl) ?_
    rw [if_pos c1] at hJ
    exact hJ
  · refine x_iload_n (dA D_X8_chanceOf 2 rfl) rfl ?_
    refine x_goto (tgt := 12) (dA D_X8_chanceOf 3 rfl) (by decide) ?_
    rw [if_neg (by first | omega | grind)] at hJ
    exact hJ
theorem C_X8_chanceOf {G : GG} {d : Nat} {x0 x1 : Int} {M : MM} {Q : PV → MM → Prop} (h : X G Y_X8_chanceOf d 0 0 0 [vI x0, vI x1] [] M Q) : C G Y_X8_chanceOf d 0 0 [vI x0, vI x1] M Q := X.entry (by decide) (Nat.le_of_ble_eq_true rfl) rfl rfl rfl h
theorem S_X8_chanceOf {G : GG} {d : Nat} {x0 x1 : Int} {M : MM} {Q : PV → MM → Prop} (h0 : inR x1) (hd : 1 ≤ d) (h : Q (vI (iAnd (if x1 ≠ 0 then (iShr x0 8) else x0) 127)) M) : C G Y_X8_chanceOf d 0 0 [vI x0, vI x1] M Q := C_X8_chanceOf (B_X8_chanceOf_0 hd ⟨h0, h⟩)
set_option maxRecDepth 100000 in
theorem B_X8_pricesOf_0 {G : GG} {d : Nat} {k n : Nat} {x0 : Int} {M : MM} {Q : PV → MM → Prop} (hd : 1 ≤ d) (h : Q (vI (iAnd (iShr x0 16) 1023)) M) : X G Y_X8_pricesOf d k n 0 [vI x0] [] M Q := by
  have hd1 : 1 ≤ d := by omega
  refine x_iload_n (dA D_X8_pricesOf 0 rfl) rfl ?_
  refine x_bipush (dA D_X8_pricesOf 1 rfl) (by decide) (by decide) ?_
  refine x_ishr (dA D_X8_pricesOf 2 rfl) ?_
  refine x_sipush (dA D_X8_pricesOf 3 rfl) (by decide) (by decide) ?_
  refine x_iand (dA D_X8_pricesOf 4 rfl) ?_
  exact x_ireturn (dA D_X8_pricesOf 5 rfl) rfl h
theorem C_X8_pricesOf {G : GG} {d : Nat} {x0 : Int} {M : MM} {Q : PV → MM → Prop} (h : X G Y_X8_pricesOf d 0 0 0 [vI x0] [] M Q) : C G Y_X8_pricesOf d 0 0 [vI x0] M Q := X.entry (by decide) (Nat.le_of_ble_eq_true rfl) rfl rfl rfl h
theorem S_X8_pricesOf {G : GG} {d : Nat} {x0 : Int} {M : MM} {Q : PV → MM → Prop} (hd : 1 ≤ d) (h : Q (vI (iAnd (iShr x0 16) 1023)) M) : C G Y_X8_pricesOf d 0 0 [vI x0] M Q := C_X8_pricesOf (B_X8_pricesOf_0 hd h)
set_option maxRecDepth 100000 in
theorem B_X11_accept_0 {G : GG} {d : Nat} {k n : Nat} {x1 : Int} {M : MM} {Q : PV → MM → Prop} (hd : 1 ≤ d) (hS : Sh M) (h : ∀ M1, M1 = wr M 0 7 0 → Sh M1 → Q (vI x1) M1) : X G Y_X11_accept d k n 0 [vA 0, vI x1] [] M Q := by
  have hd1 : 1 ≤ d := by omega
  refine x_aload_n (dA D_X11_accept 0 rfl) rfl ?_
  refine x_iconst (dA D_X11_accept 1 rfl) ?_
  refine x_put (x := 0) (dA D_X11_accept 2 rfl) fw_RX11_37 (fun _ _ hc => by cases hc; exact Or.inl rfl) (sO_0 hS) rfl rfl rfl ?_
  refine x_nmM (fun M1 eM1 => ?_)
  have hM1 : Sh M1 := eM1 ▸ (sW_0_7 hS)
  have h := h M1 eM1 hM1
  refine x_iload_n (dA D_X11_accept 3 rfl) rfl ?_
  exact x_ireturn (dA D_X11_accept 4 rfl) rfl h
theorem C_X11_accept {G : GG} {d : Nat} {x1 : Int} {M : MM} {Q : PV → MM → Prop} (h : X G Y_X11_accept d 0 0 0 [vA 0, vI x1] [] M Q) : C G Y_X11_accept d 0 0 [vA 0, vI x1] M Q := X.entry (by decide) (Nat.le_of_ble_eq_true rfl) rfl rfl rfl h
set_option maxRecDepth 100000 in
theorem B_X11_refuse_0 {G : GG} {d : Nat} {k n : Nat} {x1 : Int} {M : MM} {Q : PV → MM → Prop} (hd : 1 ≤ d) (hS : Sh M) (h : inR x1 ∧ ∀ v10, v10 = (if x1 ≤ (-4) then ((-2) - x1) else ((-1) - x1)) → 0 ≤ v10 ∧ v10 < 5 ∧ ∀ M13, M13 = wr M 15 v10 ((rd M 15 v10) + 1) → Sh M13 → ∀ M14, M14 = wr M13 0 7 x1 → Sh M14 → Q (vI x1) M14) : X G Y_X11_refuse d k n 0 [vA 0, vI x1, vU] [] M Q := by
  have hd1 : 1 ≤ d := by omega
  refine x_iload_n (dA D_X11_refuse 0 rfl) rfl ?_
  refine x_bipush (dA D_X11_refuse 1 rfl) (by decide) (by decide) ?_
  obtain ⟨h2, h⟩ := h
  have hJ : X G Y_X11_refuse d k n 16 [vA 0, vI x1, vU] [vI (if x1 ≤ (-4) then ((-2) - x1) else ((-1) - x1))] M Q := by
    refine x_nmI (fun v10 ev10 => ?_)
    have h := h v10 ev10
    refine x_istore_n (xs' := [vA 0, vI x1, vI v10]) (dA D_X11_refuse 10 rfl) (by decide) rfl ?_
    refine x_aload_n (dA D_X11_refuse 11 rfl) rfl ?_
    refine x_get (v := vA 15) (dA D_X11_refuse 12 rfl) fw_RX11_34 (sO_0 hS) (congrArg (rfV G) (sR_0_6 hS)) ?_
    refine x_iload_n (dA D_X11_refuse 13 rfl) rfl ?_
    refine x_dup2 (dA D_X11_refuse 14 rfl) rfl rfl ?_
    obtain ⟨h11, h⟩ := h
    obtain ⟨h12, h⟩ := h
    refine x_iald (dA D_X11_refuse 15 rfl) (sA_15 hS h11 h12) ?_
    refine x_iconst (dA D_X11_refuse 16 rfl) ?_
    refine x_iadd (dA D_X11_refuse 17 rfl) ?_
    refine x_iast (dA D_X11_refuse 18 rfl) (sA_15 hS h11 h12) ?_
    refine x_nmM (fun M13 eM13 => ?_)
    have hM13 : Sh M13 := eM13 ▸ (sW_15 hS)
    have h := h M13 eM13 hM13
    refine x_aload_n (dA D_X11_refuse 19 rfl) rfl ?_
    refine x_iload_n (dA D_X11_refuse 20 rfl) rfl ?_
    refine x_put (x := x1) (dA D_X11_refuse 21 rfl) fw_RX11_37 (fun _ _ hc => by cases hc; exact Or.inl rfl) (sO_0 hM13) rfl rfl rfl ?_
    refine x_nmM (fun M14 eM14 => ?_)
    have hM14 : Sh M14 := eM14 ▸ (sW_0_7 hM13)
    have h := h M14 eM14 hM14
    refine x_iload_n (dA D_X11_refuse 22 rfl) rfl ?_
    exact x_ireturn (dA D_X11_refuse 23 rfl) rfl h
  refine x_icmp_leP (tgt := 12) (dA D_X11_refuse 2 rfl) (by decide) h2 ⟨by decide, by decide⟩ ⟨fun c1 => ?_, fun c1 => ?_⟩
  · refine x_bipush (dA D_X11_refuse 7 rfl) (by decide) (by decide) ?_
    refine x_iload_n (dA D_X11_refuse 8 rfl) rfl ?_
    refine x_isub (dA D_X11_refuse 9 rfl) ?_
    rw [if_pos c1] at hJ
    exact hJ
  · refine x_iconst (dA D_X11_refuse 3 rfl) ?_
    refine x_iload_n (dA D_X11_refuse 4 rfl) rfl ?_
    refine x_isub (dA D_X11_refuse 5 rfl) ?_
    refine x_goto (tgt := 16) (dA D_X11_refuse 6 rfl) (by decide) ?_
    rw [if_neg (by first | omega | grind)] at hJ
    exact hJ
theorem C_X11_refuse {G : GG} {d : Nat} {x1 : Int} {M : MM} {Q : PV → MM → Prop} (h : X G Y_X11_refuse d 0 0 0 [vA 0, vI x1, vU] [] M Q) : C G Y_X11_refuse d 0 0 [vA 0, vI x1] M Q := X.entry (by decide) (Nat.le_of_ble_eq_true rfl) rfl rfl rfl h
set_option maxRecDepth 100000 in
theorem B_X11_isSort_0 {G : GG} {d : Nat} {k n : Nat} {x0 : Int} {M : MM} {Q : PV → MM → Prop} (hd : 1 ≤ d) (h : inR x0 ∧ Q (vI (if (x0 = 0) ∨ (x0 = 1) then 1 else 0)) M) : X G Y_X11_isSort d k n 0 [vI x0] [] M Q := by
  have hd1 : 1 ≤ d := by omega
  refine x_iload_n (dA D_X11_isSort 0 rfl) rfl ?_
  obtain ⟨h2, h⟩ := h
  have hJ : X G Y_X11_isSort d k n 14 [vI x0] [vI (if (x0 = 0) ∨ (x0 = 1) then 1 else 0)] M Q := by
    exact x_zreturn (dA D_X11_isSort 8 rfl) rfl (by split <;> decide) h
  refine x_if_eqP (tgt := 9) (dA D_X11_isSort 1 rfl) (by decide) h2 ⟨fun c1 => ?_, fun c1 => ?_⟩
  · refine x_iconst (dA D_X11_isSort 5 rfl) ?_
    refine x_goto (tgt := 14) (dA D_X11_isSort 6 rfl) (by decide) ?_
    have e0 : (if (x0 = 0) ∨ (x0 = 1) then (1 : Int) else 0) = 1 := if_pos (by first | omega | grind)
    rw [e0] at hJ
    exact hJ
  · refine x_iload_n (dA D_X11_isSort 2 rfl) rfl ?_
    refine x_iconst (dA D_X11_isSort 3 rfl) ?_
    refine x_icmp_neP (tgt := 13) (dA D_X11_isSort 4 rfl) (by decide) h2 ⟨by decide, by decide⟩ ⟨fun c7 => ?_, fun c7 => ?_⟩
    · refine x_iconst (dA D_X11_isSort 7 rfl) ?_
      have e0 : (if (x0 = 0) ∨ (x0 = 1) then (1 : Int) else 0) = 0 := if_neg (by first | omega | grind)
      rw [e0] at hJ
      exact hJ
    · refine x_iconst (dA D_X11_isSort 5 rfl) ?_
      refine x_goto (tgt := 14) (dA D_X11_isSort 6 rfl) (by decide) ?_
      have e0 : (if (x0 = 0) ∨ (x0 = 1) then (1 : Int) else 0) = 1 := if_pos (by first | omega | grind)
      rw [e0] at hJ
      exact hJ
theorem C_X11_isSort {G : GG} {d : Nat} {x0 : Int} {M : MM} {Q : PV → MM → Prop} (h : X G Y_X11_isSort d 0 0 0 [vI x0] [] M Q) : C G Y_X11_isSort d 0 0 [vI x0] M Q := X.entry (by decide) (Nat.le_of_ble_eq_true rfl) rfl rfl rfl h
theorem S_X11_isSort {G : GG} {d : Nat} {x0 : Int} {M : MM} {Q : PV → MM → Prop} (h0 : inR x0) (hd : 1 ≤ d) (h : Q (vI (if (x0 = 0) ∨ (x0 = 1) then 1 else 0)) M) : C G Y_X11_isSort d 0 0 [vI x0] M Q := C_X11_isSort (B_X11_isSort_0 hd ⟨h0, h⟩)
set_option maxRecDepth 100000 in
theorem B_X11_isChooser_0 {G : GG} {d : Nat} {k n : Nat} {x0 : Int} {M : MM} {Q : PV → MM → Prop} (hd : 1 ≤ d) (h : inR x0 ∧ Q (vI (if (0 ≤ x0) ∧ (x0 ≤ 3) then 1 else 0)) M) : X G Y_X11_isChooser d k n 0 [vI x0] [] M Q := by
  have hd1 : 1 ≤ d := by omega
  refine x_iload_n (dA D_X11_isChooser 0 rfl) rfl ?_
  obtain ⟨h2, h⟩ := h
  have hJ : X G Y_X11_isChooser d k n 14 [vI x0] [vI (if (0 ≤ x0) ∧ (x0 ≤ 3) then 1 else 0)] M Q := by
    exact x_zreturn (dA D_X11_isChooser 8 rfl) rfl (by split <;> decide) h
  refine x_if_ltP (tgt := 13) (dA D_X11_isChooser 1 rfl) (by decide) h2 ⟨fun c1 => ?_, fun c1 => ?_⟩
  · refine x_iconst (dA D_X11_isChooser 7 rfl) ?_
    have e0 : (if (0 ≤ x0) ∧ (x0 ≤ 3) then (1 : Int) else 0) = 0 := if_neg (by first | omega | grind)
    rw [e0] at hJ
    exact hJ
  · refine x_iload_n (dA D_X11_isChooser 2 rfl) rfl ?_
    refine x_iconst (dA D_X11_isChooser 3 rfl) ?_
    refine x_icmp_gtP (tgt := 13) (dA D_X11_isChooser 4 rfl) (by decide) h2 ⟨by decide, by decide⟩ ⟨fun c6 => ?_, fun c6 => ?_⟩
    · refine x_iconst (dA D_X11_isChooser 7 rfl) ?_
      have e0 : (if (0 ≤ x0) ∧ (x0 ≤ 3) then (1 : Int) else 0) = 0 := if_neg (by first | omega | grind)
      rw [e0] at hJ
      exact hJ
    · refine x_iconst (dA D_X11_isChooser 5 rfl) ?_
      refine x_goto (tgt := 14) (dA D_X11_isChooser 6 rfl) (by decide) ?_
      have e0 : (if (0 ≤ x0) ∧ (x0 ≤ 3) then (1 : Int) else 0) = 1 := if_pos (by first | omega | grind)
      rw [e0] at hJ
      exact hJ
theorem C_X11_isChooser {G : GG} {d : Nat} {x0 : Int} {M : MM} {Q : PV → MM → Prop} (h : X G Y_X11_isChooser d 0 0 0 [vI x0] [] M Q) : C G Y_X11_isChooser d 0 0 [vI x0] M Q := X.entry (by decide) (Nat.le_of_ble_eq_true rfl) rfl rfl rfl h
theorem S_X11_isChooser {G : GG} {d : Nat} {x0 : Int} {M : MM} {Q : PV → MM → Prop} (h0 : inR x0) (hd : 1 ≤ d) (h : Q (vI (if (0 ≤ x0) ∧ (x0 ≤ 3) then 1 else 0)) M) : C G Y_X11_isChooser d 0 0 [vI x0] M Q := C_X11_isChooser (B_X11_isChooser_0 hd ⟨h0, h⟩)
set_option maxRecDepth 100000 in
theorem B_X11_isCrowd_0 {G : GG} {d : Nat} {k n : Nat} {x0 x1 : Int} {M : MM} {Q : PV → MM → Prop} (hd : 1 ≤ d) (h : inR x0 ∧ inR x1 ∧ Q (vI (if (0 ≤ x0) ∧ ((x0 ≤ 5) ∧ ((0 ≤ x1) ∧ (x1 ≤ 5))) then 1 else 0)) M) : X G Y_X11_isCrowd d k n 0 [vI x0, vI x1] [] M Q := by
  have hd1 : 1 ≤ d := by omega
  refine x_iload_n (dA D_X11_isCrowd 0 rfl) rfl ?_
  obtain ⟨h2, h⟩ := h
  obtain ⟨h10, h⟩ := h
  have hJ : X G Y_X11_isCrowd d k n 23 [vI x0, vI x1] [vI (if (0 ≤ x0) ∧ ((x0 ≤ 5) ∧ ((0 ≤ x1) ∧ (x1 ≤ 5))) then 1 else 0)] M Q := by
    exact x_zreturn (dA D_X11_isCrowd 13 rfl) rfl (by split <;> decide) h
  refine x_if_ltP (tgt := 22) (dA D_X11_isCrowd 1 rfl) (by decide) h2 ⟨fun c1 => ?_, fun c1 => ?_⟩
  · refine x_iconst (dA D_X11_isCrowd 12 rfl) ?_
    have e0 : (if (0 ≤ x0) ∧ ((x0 ≤ 5) ∧ ((0 ≤ x1) ∧ (x1 ≤ 5))) then (1 : Int) else 0) = 0 := if_neg (by first | omega | grind)
    rw [e0] at hJ
    exact hJ
  · refine x_iload_n (dA D_X11_isCrowd 2 rfl) rfl ?_
    refine x_iconst (dA D_X11_isCrowd 3 rfl) ?_
    refine x_icmp_gtP (tgt := 22) (dA D_X11_isCrowd 4 rfl) (by decide) h2 ⟨by decide, by decide⟩ ⟨fun c6 => ?_, fun c6 => ?_⟩
    · refine x_iconst (dA D_X11_isCrowd 12 rfl) ?_
      have e0 : (if (0 ≤ x0) ∧ ((x0 ≤ 5) ∧ ((0 ≤ x1) ∧ (x1 ≤ 5))) then (1 : Int) else 0) = 0 := if_neg (by first | omega | grind)
      rw [e0] at hJ
      exact hJ
    · refine x_iload_n (dA D_X11_isCrowd 5 rfl) rfl ?_
      refine x_if_ltP (tgt := 22) (dA D_X11_isCrowd 6 rfl) (by decide) h10 ⟨fun c9 => ?_, fun c9 => ?_⟩
      · refine x_iconst (dA D_X11_isCrowd 12 rfl) ?_
        have e0 : (if (0 ≤ x0) ∧ ((x0 ≤ 5) ∧ ((0 ≤ x1) ∧ (x1 ≤ 5))) then (1 : Int) else 0) = 0 := if_neg (by first | omega | grind)
        rw [e0] at hJ
        exact hJ
      · refine x_iload_n (dA D_X11_isCrowd 7 rfl) rfl ?_
        refine x_iconst (dA D_X11_isCrowd 8 rfl) ?_
        refine x_icmp_gtP (tgt := 22) (dA D_X11_isCrowd 9 rfl) (by decide) h10 ⟨by decide, by decide⟩ ⟨fun c14 => ?_, fun c14 => ?_⟩
        · refine x_iconst (dA D_X11_isCrowd 12 rfl) ?_
          have e0 : (if (0 ≤ x0) ∧ ((x0 ≤ 5) ∧ ((0 ≤ x1) ∧ (x1 ≤ 5))) then (1 : Int) else 0) = 0 := if_neg (by first | omega | grind)
          rw [e0] at hJ
          exact hJ
        · refine x_iconst (dA D_X11_isCrowd 10 rfl) ?_
          refine x_goto (tgt := 23) (dA D_X11_isCrowd 11 rfl) (by decide) ?_
          have e0 : (if (0 ≤ x0) ∧ ((x0 ≤ 5) ∧ ((0 ≤ x1) ∧ (x1 ≤ 5))) then (1 : Int) else 0) = 1 := if_pos (by first | omega | grind)
          rw [e0] at hJ
          exact hJ
theorem C_X11_isCrowd {G : GG} {d : Nat} {x0 x1 : Int} {M : MM} {Q : PV → MM → Prop} (h : X G Y_X11_isCrowd d 0 0 0 [vI x0, vI x1] [] M Q) : C G Y_X11_isCrowd d 0 0 [vI x0, vI x1] M Q := X.entry (by decide) (Nat.le_of_ble_eq_true rfl) rfl rfl rfl h
theorem S_X11_isCrowd {G : GG} {d : Nat} {x0 x1 : Int} {M : MM} {Q : PV → MM → Prop} (h0 : inR x0) (h1 : inR x1) (hd : 1 ≤ d) (h : Q (vI (if (0 ≤ x0) ∧ ((x0 ≤ 5) ∧ ((0 ≤ x1) ∧ (x1 ≤ 5))) then 1 else 0)) M) : C G Y_X11_isCrowd d 0 0 [vI x0, vI x1] M Q := C_X11_isCrowd (B_X11_isCrowd_0 hd ⟨h0, h1, h⟩)
set_option maxRecDepth 100000 in
theorem B_X12_in_0 {G : GG} {d : Nat} {k n : Nat} {x0 x2 x4 : Int} {M : MM} {Q : PV → MM → Prop} (hd : 1 ≤ d) (h : inL x0 ∧ inL x2 ∧ inL x4 ∧ Q (vI (if (x2 ≤ x0) ∧ (x0 ≤ x4) then 1 else 0)) M) : X G Y_X12_in d k n 0 [vL x0, vU, vL x2, vU, vL x4, vU] [] M Q := by
  have hd1 : 1 ≤ d := by omega
  refine x_lload_n (dA D_X12_in 0 rfl) rfl ?_
  refine x_lload_n (dA D_X12_in 1 rfl) rfl ?_
  obtain ⟨h2, h⟩ := h
  obtain ⟨h3, h⟩ := h
  obtain ⟨h8, h⟩ := h
  have hJ : X G Y_X12_in d k n 18 [vL x0, vU, vL x2, vU, vL x4, vU] [vI (if (x2 ≤ x0) ∧ (x0 ≤ x4) then 1 else 0)] M Q := by
    exact x_zreturn (dA D_X12_in 11 rfl) rfl (by split <;> decide) h
  refine x_lcmp_ltP (tgt := 17) (dA D_X12_in 2 rfl) (dA D_X12_in 3 rfl) (by decide) h2 h3 ⟨fun c1 => ?_, fun c1 => ?_⟩
  · refine x_iconst (dA D_X12_in 10 rfl) ?_
    have e0 : (if (x2 ≤ x0) ∧ (x0 ≤ x4) then (1 : Int) else 0) = 0 := if_neg (by first | omega | grind)
    rw [e0] at hJ
    exact hJ
  · refine x_lload_n (dA D_X12_in 4 rfl) rfl ?_
    refine x_lload (dA D_X12_in 5 rfl) rfl ?_
    refine x_lcmp_gtP (tgt := 17) (dA D_X12_in 6 rfl) (dA D_X12_in 7 rfl) (by decide) h2 h8 ⟨fun c7 => ?_, fun c7 => ?_⟩
    · refine x_iconst (dA D_X12_in 10 rfl) ?_
      have e0 : (if (x2 ≤ x0) ∧ (x0 ≤ x4) then (1 : Int) else 0) = 0 := if_neg (by first | omega | grind)
      rw [e0] at hJ
      exact hJ
    · refine x_iconst (dA D_X12_in 8 rfl) ?_
      refine x_goto (tgt := 18) (dA D_X12_in 9 rfl) (by decide) ?_
      have e0 : (if (x2 ≤ x0) ∧ (x0 ≤ x4) then (1 : Int) else 0) = 1 := if_pos (by first | omega | grind)
      rw [e0] at hJ
      exact hJ
theorem C_X12_in {G : GG} {d : Nat} {x0 x2 x4 : Int} {M : MM} {Q : PV → MM → Prop} (h : X G Y_X12_in d 0 0 0 [vL x0, vU, vL x2, vU, vL x4, vU] [] M Q) : C G Y_X12_in d 0 0 [vL x0, vL x2, vL x4] M Q := X.entry (by decide) (Nat.le_of_ble_eq_true rfl) rfl rfl rfl h
theorem S_X12_in {G : GG} {d : Nat} {x0 x2 x4 : Int} {M : MM} {Q : PV → MM → Prop} (h0 : inL x0) (h1 : inL x2) (h2 : inL x4) (hd : 1 ≤ d) (h : Q (vI (if (x2 ≤ x0) ∧ (x0 ≤ x4) then 1 else 0)) M) : C G Y_X12_in d 0 0 [vL x0, vL x2, vL x4] M Q := C_X12_in (B_X12_in_0 hd ⟨h0, h1, h2, h⟩)
set_option maxRecDepth 100000 in
theorem B_X12_tell_0 {G : GG} {d : Nat} {k n : Nat} {x1 : Int} {M : MM} {Q : PV → MM → Prop} (hd : 1 ≤ d) (hS : Sh M) (h : inR x1 ∧ ∀ M6, M6 = wr M 67 1 (if 0 ≤ x1 then 0 else x1) → Sh M6 → ((0 ≤ x1 → Q (vI x1) M6) ∧ (x1 < 0 → 0 ≤ (-x1) ∧ (-x1) < 7 ∧ ∀ M9, M9 = wr M6 68 (-x1) ((rd M6 68 (-x1)) + 1) → Sh M9 → Q (vI x1) M9))) : X G Y_X12_tell d k n 0 [vA 67, vI x1] [] M Q := by
  have hd1 : 1 ≤ d := by omega
  refine x_aload_n (dA D_X12_tell 0 rfl) rfl ?_
  refine x_iload_n (dA D_X12_tell 1 rfl) rfl ?_
  obtain ⟨h2, h⟩ := h
  have hJ : X G Y_X12_tell d k n 10 [vA 67, vI x1] [vI (if 0 ≤ x1 then 0 else x1), vA 67] M Q := by
    refine x_put (x := if 0 ≤ x1 then 0 else x1) (dA D_X12_tell 6 rfl) fw_RX12_118 (fun _ _ hc => by cases hc; exact Or.inl rfl) (sO_67 hS) rfl rfl rfl ?_
    refine x_nmM (fun M6 eM6 => ?_)
    have hM6 : Sh M6 := eM6 ▸ (sW_67_1 hS)
    have h := h M6 eM6 hM6
    refine x_iload_n (dA D_X12_tell 7 rfl) rfl ?_
    refine x_if_geP (tgt := 28) (dA D_X12_tell 8 rfl) (by decide) h2 ⟨fun c => ?_, fun c => ?_⟩
    · have h := h.1 c
      refine x_iload_n (dA D_X12_tell 18 rfl) rfl ?_
      exact x_ireturn (dA D_X12_tell 19 rfl) rfl h
    · have h := h.2 c
      refine x_aload_n (dA D_X12_tell 9 rfl) rfl ?_
      refine x_get (v := vA 68) (dA D_X12_tell 10 rfl) fw_RX12_7 (sO_67 hM6) (congrArg (rfV G) (sR_67_2 hM6)) ?_
      refine x_iload_n (dA D_X12_tell 11 rfl) rfl ?_
      refine x_ineg (dA D_X12_tell 12 rfl) ?_
      refine x_dup2 (dA D_X12_tell 13 rfl) rfl rfl ?_
      obtain ⟨h7, h⟩ := h
      obtain ⟨h8, h⟩ := h
      refine x_iald (dA D_X12_tell 14 rfl) (sA_68 hM6 h7 h8) ?_
      refine x_iconst (dA D_X12_tell 15 rfl) ?_
      refine x_iadd (dA D_X12_tell 16 rfl) ?_
      refine x_iast (dA D_X12_tell 17 rfl) (sA_68 hM6 h7 h8) ?_
      refine x_nmM (fun M9 eM9 => ?_)
      have hM9 : Sh M9 := eM9 ▸ (sW_68 hM6)
      have h := h M9 eM9 hM9
      refine x_iload_n (dA D_X12_tell 18 rfl) rfl ?_
      exact x_ireturn (dA D_X12_tell 19 rfl) rfl h
  refine x_if_geP (tgt := 9) (dA D_X12_tell 2 rfl) (by decide) h2 ⟨fun c1 => ?_, fun c1 => ?_⟩
  · refine x_iconst (dA D_X12_tell 5 rfl) ?_
    rw [if_pos c1] at hJ
    exact hJ
  · refine x_iload_n (dA D_X12_tell 3 rfl) rfl ?_
    refine x_goto (tgt := 10) (dA D_X12_tell 4 rfl) (by decide) ?_
    rw [if_neg (by first | omega | grind)] at hJ
    exact hJ
theorem C_X12_tell {G : GG} {d : Nat} {x1 : Int} {M : MM} {Q : PV → MM → Prop} (h : X G Y_X12_tell d 0 0 0 [vA 67, vI x1] [] M Q) : C G Y_X12_tell d 0 0 [vA 67, vI x1] M Q := X.entry (by decide) (Nat.le_of_ble_eq_true rfl) rfl rfl rfl h
set_option maxRecDepth 100000 in
theorem B_X12_was_0 {G : GG} {d : Nat} {k n : Nat} {x1 : Int} {M : MM} {Q : PV → MM → Prop} (hd : 1 ≤ d) (hS : Sh M) (h : ∀ M1, M1 = wr M 67 1 0 → Sh M1 → Q (vI x1) M1) : X G Y_X12_was d k n 0 [vA 67, vI x1] [] M Q := by
  have hd1 : 1 ≤ d := by omega
  refine x_aload_n (dA D_X12_was 0 rfl) rfl ?_
  refine x_iconst (dA D_X12_was 1 rfl) ?_
  refine x_put (x := 0) (dA D_X12_was 2 rfl) fw_RX12_118 (fun _ _ hc => by cases hc; exact Or.inl rfl) (sO_67 hS) rfl rfl rfl ?_
  refine x_nmM (fun M1 eM1 => ?_)
  have hM1 : Sh M1 := eM1 ▸ (sW_67_1 hS)
  have h := h M1 eM1 hM1
  refine x_iload_n (dA D_X12_was 3 rfl) rfl ?_
  exact x_ireturn (dA D_X12_was 4 rfl) rfl h
theorem C_X12_was {G : GG} {d : Nat} {x1 : Int} {M : MM} {Q : PV → MM → Prop} (h : X G Y_X12_was d 0 0 0 [vA 67, vI x1] [] M Q) : C G Y_X12_was d 0 0 [vA 67, vI x1] M Q := X.entry (by decide) (Nat.le_of_ble_eq_true rfl) rfl rfl rfl h
set_option maxRecDepth 100000 in
theorem B_X12_is_0 {G : GG} {d : Nat} {k n : Nat} {x0 x1 : Int} {M : MM} {Q : PV → MM → Prop} (hd : 1 ≤ d) (h : Q (vI (if (iAnd (iShr x0 x1) 1) = 1 then 1 else 0)) M) : X G Y_X12_is d k n 0 [vI x0, vI x1] [] M Q := by
  have hd1 : 1 ≤ d := by omega
  refine x_iload_n (dA D_X12_is 0 rfl) rfl ?_
  refine x_iload_n (dA D_X12_is 1 rfl) rfl ?_
  refine x_ishr (dA D_X12_is 2 rfl) ?_
  refine x_iconst (dA D_X12_is 3 rfl) ?_
  refine x_iand (dA D_X12_is 4 rfl) ?_
  refine x_iconst (dA D_X12_is 5 rfl) ?_
  have hJ : X G Y_X12_is d k n 14 [vI x0, vI x1] [vI (if (iAnd (iShr x0 x1) 1) = 1 then 1 else 0)] M Q := by
    exact x_zreturn (dA D_X12_is 10 rfl) rfl (by split <;> decide) h
  refine x_icmp_neP (tgt := 13) (dA D_X12_is 6 rfl) (by decide) (inR_iAnd _ _) ⟨by decide, by decide⟩ ⟨fun c1 => ?_, fun c1 => ?_⟩
  · refine x_iconst (dA D_X12_is 9 rfl) ?_
    have e0 : (if (iAnd (iShr x0 x1) 1) = 1 then (1 : Int) else 0) = 0 := if_neg (by first | omega | grind)
    rw [e0] at hJ
    exact hJ
  · refine x_iconst (dA D_X12_is 7 rfl) ?_
    refine x_goto (tgt := 14) (dA D_X12_is 8 rfl) (by decide) ?_
    have e0 : (if (iAnd (iShr x0 x1) 1) = 1 then (1 : Int) else 0) = 1 := if_pos (by first | omega | grind)
    rw [e0] at hJ
    exact hJ
theorem C_X12_is {G : GG} {d : Nat} {x0 x1 : Int} {M : MM} {Q : PV → MM → Prop} (h : X G Y_X12_is d 0 0 0 [vI x0, vI x1] [] M Q) : C G Y_X12_is d 0 0 [vI x0, vI x1] M Q := X.entry (by decide) (Nat.le_of_ble_eq_true rfl) rfl rfl rfl h
theorem S_X12_is {G : GG} {d : Nat} {x0 x1 : Int} {M : MM} {Q : PV → MM → Prop} (hd : 1 ≤ d) (h : Q (vI (if (iAnd (iShr x0 x1) 1) = 1 then 1 else 0)) M) : C G Y_X12_is d 0 0 [vI x0, vI x1] M Q := C_X12_is (B_X12_is_0 hd h)
set_option maxRecDepth 100000 in
theorem B_X12_ofScene_0 {G : GG} {d : Nat} {k n : Nat} {x1 x2 : Int} {M : MM} {Q : PV → MM → Prop} (hd : 1 ≤ d) (hS : Sh M) (h : 0 ≤ ((10 + (3 * x1)) + x2) ∧ ((10 + (3 * x1)) + x2) < 5460 ∧ Q (vI (rd M 69 ((10 + (3 * x1)) + x2))) M) : X G Y_X12_ofScene d k n 0 [vA 67, vI x1, vI x2] [] M Q := by
  have hd1 : 1 ≤ d := by omega
  refine x_aload_n (dA D_X12_ofScene 0 rfl) rfl ?_
  refine x_get (v := vA 69) (dA D_X12_ofScene 1 rfl) fw_RX12_13 (sO_67 hS) (congrArg (rfV G) (sR_67_3 hS)) ?_
  refine x_bipush (dA D_X12_ofScene 2 rfl) (by decide) (by decide) ?_
  refine x_iconst (dA D_X12_ofScene 3 rfl) ?_
  refine x_iload_n (dA D_X12_ofScene 4 rfl) rfl ?_
  refine x_imul (dA D_X12_ofScene 5 rfl) ?_
  refine x_iadd (dA D_X12_ofScene 6 rfl) ?_
  refine x_iload_n (dA D_X12_ofScene 7 rfl) rfl ?_
  refine x_iadd (dA D_X12_ofScene 8 rfl) ?_
  obtain ⟨h1, h⟩ := h
  obtain ⟨h2, h⟩ := h
  refine x_iald (dA D_X12_ofScene 9 rfl) (sA_69 hS h1 h2) ?_
  exact x_ireturn (dA D_X12_ofScene 10 rfl) rfl h
theorem C_X12_ofScene {G : GG} {d : Nat} {x1 x2 : Int} {M : MM} {Q : PV → MM → Prop} (h : X G Y_X12_ofScene d 0 0 0 [vA 67, vI x1, vI x2] [] M Q) : C G Y_X12_ofScene d 0 0 [vA 67, vI x1, vI x2] M Q := X.entry (by decide) (Nat.le_of_ble_eq_true rfl) rfl rfl rfl h
theorem S_X12_ofScene {G : GG} {d : Nat} {x1 x2 : Int} {M : MM} {Q : PV → MM → Prop} (hS : Sh M) (h0 : 0 ≤ ((10 + (3 * x1)) + x2)) (h1 : ((10 + (3 * x1)) + x2) < 5460) (hd : 1 ≤ d) (h : Q (vI (rd M 69 ((10 + (3 * x1)) + x2))) M) : C G Y_X12_ofScene d 0 0 [vA 67, vI x1, vI x2] M Q := C_X12_ofScene (B_X12_ofScene_0 hd hS ⟨h0, h1, h⟩)
set_option maxRecDepth 100000 in
theorem B_X12_addScene_0 {G : GG} {d : Nat} {k n : Nat} {x1 x2 x3 : Int} {M : MM} {Q : PV → MM → Prop} (hd : 1 ≤ d) (hS : Sh M) (h : ∀ v1, v1 = 10 + (3 * (rd M 69 0)) → 0 ≤ v1 ∧ v1 < 5460 ∧ ∀ M4, M4 = wr M 69 v1 x1 → Sh M4 → 0 ≤ (v1 + 1) ∧ (v1 + 1) < 5460 ∧ ∀ M7, M7 = wr M4 69 (v1 + 1) x2 → Sh M7 → 0 ≤ (v1 + 2) ∧ (v1 + 2) < 5460 ∧ ∀ M10, M10 = wr M7 69 (v1 + 2) x3 → Sh M10 → ∀ M11, M11 = wr M10 69 0 ((rd M10 69 0) + 1) → Sh M11 → Q vU M11) : X G Y_X12_addScene d k n 0 [vA 67, vI x1, vI x2, vI x3, vU] [] M Q := by
  have hd1 : 1 ≤ d := by omega
  refine x_bipush (dA D_X12_addScene 0 rfl) (by decide) (by decide) ?_
  refine x_iconst (dA D_X12_addScene 1 rfl) ?_
  refine x_aload_n (dA D_X12_addScene 2 rfl) rfl ?_
  refine x_get (v := vA 69) (dA D_X12_addScene 3 rfl) fw_RX12_13 (sO_67 hS) (congrArg (rfV G) (sR_67_3 hS)) ?_
  refine x_iconst (dA D_X12_addScene 4 rfl) ?_
  refine x_iald (dA D_X12_addScene 5 rfl) (sA_69 hS (by decide) (by decide)) ?_
  refine x_imul (dA D_X12_addScene 6 rfl) ?_
  refine x_iadd (dA D_X12_addScene 7 rfl) ?_
  refine x_nmI (fun v1 ev1 => ?_)
  have h := h v1 ev1
  refine x_istore (xs' := [vA 67, vI x1, vI x2, vI x3, vI v1]) (dA D_X12_addScene 8 rfl) (by decide) rfl ?_
  refine x_aload_n (dA D_X12_addScene 9 rfl) rfl ?_
  refine x_get (v := vA 69) (dA D_X12_addScene 10 rfl) fw_RX12_13 (sO_67 hS) (congrArg (rfV G) (sR_67_3 hS)) ?_
  refine x_iload (dA D_X12_addScene 11 rfl) rfl ?_
  refine x_iload_n (dA D_X12_addScene 12 rfl) rfl ?_
  obtain ⟨h2, h⟩ := h
  obtain ⟨h3, h⟩ := h
  refine x_iast (dA D_X12_addScene 13 rfl) (sA_69 hS h2 h3) ?_
  refine x_nmM (fun M4 eM4 => ?_)
  have hM4 : Sh M4 := eM4 ▸ (sW_69 hS)
  have h := h M4 eM4 hM4
  refine x_aload_n (dA D_X12_addScene 14 rfl) rfl ?_
  refine x_get (v := vA 69) (dA D_X12_addScene 15 rfl) fw_RX12_13 (sO_67 hM4) (congrArg (rfV G) (sR_67_3 hM4)) ?_
  refine x_iload (dA D_X12_addScene 16 rfl) rfl ?_
  refine x_iconst (dA D_X12_addScene 17 rfl) ?_
  refine x_iadd (dA D_X12_addScene 18 rfl) ?_
  refine x_iload_n (dA D_X12_addScene 19 rfl) rfl ?_
  obtain ⟨h5, h⟩ := h
  obtain ⟨h6, h⟩ := h
  refine x_iast (dA D_X12_addScene 20 rfl) (sA_69 hM4 h5 h6) ?_
  refine x_nmM (fun M7 eM7 => ?_)
  have hM7 : Sh M7 := eM7 ▸ (sW_69 hM4)
  have h := h M7 eM7 hM7
  refine x_aload_n (dA D_X12_addScene 21 rfl) rfl ?_
  refine x_get (v := vA 69) (dA D_X12_addScene 22 rfl) fw_RX12_13 (sO_67 hM7) (congrArg (rfV G) (sR_67_3 hM7)) ?_
  refine x_iload (dA D_X12_addScene 23 rfl) rfl ?_
  refine x_iconst (dA D_X12_addScene 24 rfl) ?_
  refine x_iadd (dA D_X12_addScene 25 rfl) ?_
  refine x_iload_n (dA D_X12_addScene 26 rfl) rfl ?_
  obtain ⟨h8, h⟩ := h
  obtain ⟨h9, h⟩ := h
  refine x_iast (dA D_X12_addScene 27 rfl) (sA_69 hM7 h8 h9) ?_
  refine x_nmM (fun M10 eM10 => ?_)
  have hM10 : Sh M10 := eM10 ▸ (sW_69 hM7)
  have h := h M10 eM10 hM10
  refine x_aload_n (dA D_X12_addScene 28 rfl) rfl ?_
  refine x_get (v := vA 69) (dA D_X12_addScene 29 rfl) fw_RX12_13 (sO_67 hM10) (congrArg (rfV G) (sR_67_3 hM10)) ?_
  refine x_iconst (dA D_X12_addScene 30 rfl) ?_
  refine x_dup2 (dA D_X12_addScene 31 rfl) rfl rfl ?_
  refine x_iald (dA D_X12_addScene 32 rfl) (sA_69 hM10 (by decide) (by decide)) ?_
  refine x_iconst (dA D_X12_addScene 33 rfl) ?_
  refine x_iadd (dA D_X12_addScene 34 rfl) ?_
  refine x_iast (dA D_X12_addScene 35 rfl) (sA_69 hM10 (by decide) (by decide)) ?_
  refine x_nmM (fun M11 eM11 => ?_)
  have hM11 : Sh M11 := eM11 ▸ (sW_69 hM10)
  have h := h M11 eM11 hM11
  exact x_return (dA D_X12_addScene 36 rfl) rfl h
theorem C_X12_addScene {G : GG} {d : Nat} {x1 x2 x3 : Int} {M : MM} {Q : PV → MM → Prop} (h : X G Y_X12_addScene d 0 0 0 [vA 67, vI x1, vI x2, vI x3, vU] [] M Q) : C G Y_X12_addScene d 0 0 [vA 67, vI x1, vI x2, vI x3] M Q := X.entry (by decide) (Nat.le_of_ble_eq_true rfl) rfl rfl rfl h
set_option maxRecDepth 100000 in
theorem B_X12_isSmall_0 {G : GG} {d : Nat} {k n : Nat} {x0 : Int} {M : MM} {Q : PV → MM → Prop} (hd : 1 ≤ d) (h : inR x0 ∧ Q (vI (if (97 ≤ x0) ∧ (x0 ≤ 122) then 1 else 0)) M) : X G Y_X12_isSmall d k n 0 [vI x0] [] M Q := by
  have hd1 : 1 ≤ d := by omega
  refine x_iload_n (dA D_X12_isSmall 0 rfl) rfl ?_
  refine x_bipush (dA D_X12_isSmall 1 rfl) (by decide) (by decide) ?_
  obtain ⟨h2, h⟩ := h
  have hJ : X G Y_X12_isSmall d k n 17 [vI x0] [vI (if (97 ≤ x0) ∧ (x0 ≤ 122) then 1 else 0)] M Q := by
    exact x_zreturn (dA D_X12_isSmall 9 rfl) rfl (by split <;> decide) h
  refine x_icmp_ltP (tgt := 16) (dA D_X12_isSmall 2 rfl) (by decide) h2 ⟨by decide, by decide⟩ ⟨fun c1 => ?_, fun c1 => ?_⟩
  · refine x_iconst (dA D_X12_isSmall 8 rfl) ?_
    have e0 : (if (97 ≤ x0) ∧ (x0 ≤ 122) then (1 : Int) else 0) = 0 := if_neg (by first | omega | grind)
    rw [e0] at hJ
    exact hJ
  · refine x_iload_n (dA D_X12_isSmall 3 rfl) rfl ?_
    refine x_bipush (dA D_X12_isSmall 4 rfl) (by decide) (by decide) ?_
    refine x_icmp_gtP (tgt := 16) (dA D_X12_isSmall 5 rfl) (by decide) h2 ⟨by decide, by decide⟩ ⟨fun c6 => ?_, fun c6 => ?_⟩
    · refine x_iconst (dA D_X12_isSmall 8 rfl) ?_
      have e0 : (if (97 ≤ x0) ∧ (x0 ≤ 122) then (1 : Int) else 0) = 0 := if_neg (by first | omega | grind)
      rw [e0] at hJ
      exact hJ
    · refine x_iconst (dA D_X12_isSmall 6 rfl) ?_
      refine x_goto (tgt := 17) (dA D_X12_isSmall 7 rfl) (by decide) ?_
      have e0 : (if (97 ≤ x0) ∧ (x0 ≤ 122) then (1 : Int) else 0) = 1 := if_pos (by first | omega | grind)
      rw [e0] at hJ
      exact hJ
theorem C_X12_isSmall {G : GG} {d : Nat} {x0 : Int} {M : MM} {Q : PV → MM → Prop} (h : X G Y_X12_isSmall d 0 0 0 [vI x0] [] M Q) : C G Y_X12_isSmall d 0 0 [vI x0] M Q := X.entry (by decide) (Nat.le_of_ble_eq_true rfl) rfl rfl rfl h
theorem S_X12_isSmall {G : GG} {d : Nat} {x0 : Int} {M : MM} {Q : PV → MM → Prop} (h0 : inR x0) (hd : 1 ≤ d) (h : Q (vI (if (97 ≤ x0) ∧ (x0 ≤ 122) then 1 else 0)) M) : C G Y_X12_isSmall d 0 0 [vI x0] M Q := C_X12_isSmall (B_X12_isSmall_0 hd ⟨h0, h⟩)
set_option maxRecDepth 100000 in
theorem B_X12_isDigit_0 {G : GG} {d : Nat} {k n : Nat} {x0 : Int} {M : MM} {Q : PV → MM → Prop} (hd : 1 ≤ d) (h : inR x0 ∧ Q (vI (if (48 ≤ x0) ∧ (x0 ≤ 57) then 1 else 0)) M) : X G Y_X12_isDigit d k n 0 [vI x0] [] M Q := by
  have hd1 : 1 ≤ d := by omega
  refine x_iload_n (dA D_X12_isDigit 0 rfl) rfl ?_
  refine x_bipush (dA D_X12_isDigit 1 rfl) (by decide) (by decide) ?_
  obtain ⟨h2, h⟩ := h
  have hJ : X G Y_X12_isDigit d k n 17 [vI x0] [vI (if (48 ≤ x0) ∧ (x0 ≤ 57) then 1 else 0)] M Q := by
    exact x_zreturn (dA D_X12_isDigit 9 rfl) rfl (by split <;> decide) h
  refine x_icmp_ltP (tgt := 16) (dA D_X12_isDigit 2 rfl) (by decide) h2 ⟨by decide, by decide⟩ ⟨fun c1 => ?_, fun c1 => ?_⟩
  · refine x_iconst (dA D_X12_isDigit 8 rfl) ?_
    have e0 : (if (48 ≤ x0) ∧ (x0 ≤ 57) then (1 : Int) else 0) = 0 := if_neg (by first | omega | grind)
    rw [e0] at hJ
    exact hJ
  · refine x_iload_n (dA D_X12_isDigit 3 rfl) rfl ?_
    refine x_bipush (dA D_X12_isDigit 4 rfl) (by decide) (by decide) ?_
    refine x_icmp_gtP (tgt := 16) (dA D_X12_isDigit 5 rfl) (by decide) h2 ⟨by decide, by decide⟩ ⟨fun c6 => ?_, fun c6 => ?_⟩
    · refine x_iconst (dA D_X12_isDigit 8 rfl) ?_
      have e0 : (if (48 ≤ x0) ∧ (x0 ≤ 57) then (1 : Int) else 0) = 0 := if_neg (by first | omega | grind)
      rw [e0] at hJ
      exact hJ
    · refine x_iconst (dA D_X12_isDigit 6 rfl) ?_
      refine x_goto (tgt := 17) (dA D_X12_isDigit 7 rfl) (by decide) ?_
      have e0 : (if (48 ≤ x0) ∧ (x0 ≤ 57) then (1 : Int) else 0) = 1 := if_pos (by first | omega | grind)
      rw [e0] at hJ
      exact hJ
theorem C_X12_isDigit {G : GG} {d : Nat} {x0 : Int} {M : MM} {Q : PV → MM → Prop} (h : X G Y_X12_isDigit d 0 0 0 [vI x0] [] M Q) : C G Y_X12_isDigit d 0 0 [vI x0] M Q := X.entry (by decide) (Nat.le_of_ble_eq_true rfl) rfl rfl rfl h
theorem S_X12_isDigit {G : GG} {d : Nat} {x0 : Int} {M : MM} {Q : PV → MM → Prop} (h0 : inR x0) (hd : 1 ≤ d) (h : Q (vI (if (48 ≤ x0) ∧ (x0 ≤ 57) then 1 else 0)) M) : C G Y_X12_isDigit d 0 0 [vI x0] M Q := C_X12_isDigit (B_X12_isDigit_0 hd ⟨h0, h⟩)
set_option maxRecDepth 100000 in
theorem B_X12_isWord_0 {G : GG} {d : Nat} {k n : Nat} {x1 : Int} {M : MM} {Q : PV → MM → Prop} (hd : 1 ≤ d) (hS : Sh M) (h : inR (rd M 67 11) ∧ inL (rd M 67 12) ∧ inL x1 ∧ Q (vI (if ((rd M 67 11) = 1) ∧ ((rd M 67 12) = x1) then 1 else 0)) M) : X G Y_X12_isWord d k n 0 [vA 67, vL x1, vU] [] M Q := by
  have hd1 : 1 ≤ d := by omega
  refine x_aload_n (dA D_X12_isWord 0 rfl) rfl ?_
  refine x_get (v := vI (rd M 67 11)) (dA D_X12_isWord 1 rfl) fw_RX12_201 (sO_67 hS) rfl ?_
  refine x_iconst (dA D_X12_isWord 2 rfl) ?_
  obtain ⟨h2, h⟩ := h
  obtain ⟨h8, h⟩ := h
  obtain ⟨h9, h⟩ := h
  have hJ : X G Y_X12_isWord d k n 22 [vA 67, vL x1, vU] [vI (if ((rd M 67 11) = 1) ∧ ((rd M 67 12) = x1) then 1 else 0)] M Q := by
    exact x_zreturn (dA D_X12_isWord 12 rfl) rfl (by split <;> decide) h
  refine x_icmp_neP (tgt := 21) (dA D_X12_isWord 3 rfl) (by decide) h2 ⟨by decide, by decide⟩ ⟨fun c1 => ?_, fun c1 => ?_⟩
  · refine x_iconst (dA D_X12_isWord 11 rfl) ?_
    have e0 : (if ((rd M 67 11) = 1) ∧ ((rd M 67 12) = x1) then (1 : Int) else 0) = 0 := if_neg (by first | omega | grind)
    rw [e0] at hJ
    exact hJ
  · refine x_aload_n (dA D_X12_isWord 4 rfl) rfl ?_
    refine x_get (v := vL (rd M 67 12)) (dA D_X12_isWord 5 rfl) fw_RX12_191 (sO_67 hS) rfl ?_
    refine x_lload_n (dA D_X12_isWord 6 rfl) rfl ?_
    refine x_lcmp_neP (tgt := 21) (dA D_X12_isWord 7 rfl) (dA D_X12_isWord 8 rfl) (by decide) h8 h9 ⟨fun c7 => ?_, fun c7 => ?_⟩
    · refine x_iconst (dA D_X12_isWord 11 rfl) ?_
      have e0 : (if ((rd M 67 11) = 1) ∧ ((rd M 67 12) = x1) then (1 : Int) else 0) = 0 := if_neg (by first | omega | grind)
      rw [e0] at hJ
      exact hJ
    · refine x_iconst (dA D_X12_isWord 9 rfl) ?_
      refine x_goto (tgt := 22) (dA D_X12_isWord 10 rfl) (by decide) ?_
      have e0 : (if ((rd M 67 11) = 1) ∧ ((rd M 67 12) = x1) then (1 : Int) else 0) = 1 := if_pos (by first | omega | grind)
      rw [e0] at hJ
      exact hJ
theorem C_X12_isWord {G : GG} {d : Nat} {x1 : Int} {M : MM} {Q : PV → MM → Prop} (h : X G Y_X12_isWord d 0 0 0 [vA 67, vL x1, vU] [] M Q) : C G Y_X12_isWord d 0 0 [vA 67, vL x1] M Q := X.entry (by decide) (Nat.le_of_ble_eq_true rfl) rfl rfl rfl h
theorem S_X12_isWord {G : GG} {d : Nat} {x1 : Int} {M : MM} {Q : PV → MM → Prop} (hS : Sh M) (h0 : inR (rd M 67 11)) (h1 : inL (rd M 67 12)) (h2 : inL x1) (hd : 1 ≤ d) (h : Q (vI (if ((rd M 67 11) = 1) ∧ ((rd M 67 12) = x1) then 1 else 0)) M) : C G Y_X12_isWord d 0 0 [vA 67, vL x1] M Q := C_X12_isWord (B_X12_isWord_0 hd hS ⟨h0, h1, h2, h⟩)
set_option maxRecDepth 100000 in
theorem B_X12_isSign_0 {G : GG} {d : Nat} {k n : Nat} {x1 : Int} {M : MM} {Q : PV → MM → Prop} (hd : 1 ≤ d) (hS : Sh M) (h : inR (rd M 67 11) ∧ inR x1 ∧ inL (rd M 67 12) ∧ inL x1 ∧ Q (vI (if ((rd M 67 11) = 3) ∧ ((rd M 67 12) = x1) then 1 else 0)) M) : X G Y_X12_isSign d k n 0 [vA 67, vI x1] [] M Q := by
  have hd1 : 1 ≤ d := by omega
  refine x_aload_n (dA D_X12_isSign 0 rfl) rfl ?_
  refine x_get (v := vI (rd M 67 11)) (dA D_X12_isSign 1 rfl) fw_RX12_201 (sO_67 hS) rfl ?_
  refine x_iconst (dA D_X12_isSign 2 rfl) ?_
  obtain ⟨h2, h⟩ := h
  obtain ⟨h8, h⟩ := h
  obtain ⟨h10, h⟩ := h
  obtain ⟨h11, h⟩ := h
  have hJ : X G Y_X12_isSign d k n 23 [vA 67, vI x1] [vI (if ((rd M 67 11) = 3) ∧ ((rd M 67 12) = x1) then 1 else 0)] M Q := by
    exact x_zreturn (dA D_X12_isSign 13 rfl) rfl (by split <;> decide) h
  refine x_icmp_neP (tgt := 22) (dA D_X12_isSign 3 rfl) (by decide) h2 ⟨by decide, by decide⟩ ⟨fun c1 => ?_, fun c1 => ?_⟩
  · refine x_iconst (dA D_X12_isSign 12 rfl) ?_
    have e0 : (if ((rd M 67 11) = 3) ∧ ((rd M 67 12) = x1) then (1 : Int) else 0) = 0 := if_neg (by first | omega | grind)
    rw [e0] at hJ
    exact hJ
  · refine x_aload_n (dA D_X12_isSign 4 rfl) rfl ?_
    refine x_get (v := vL (rd M 67 12)) (dA D_X12_isSign 5 rfl) fw_RX12_191 (sO_67 hS) rfl ?_
    refine x_iload_n (dA D_X12_isSign 6 rfl) rfl ?_
    refine x_i2l (dA D_X12_isSign 7 rfl) h8 ?_
    refine x_lcmp_neP (tgt := 22) (dA D_X12_isSign 8 rfl) (dA D_X12_isSign 9 rfl) (by decide) h10 h11 ⟨fun c9 => ?_, fun c9 => ?_⟩
    · refine x_iconst (dA D_X12_isSign 12 rfl) ?_
      have e0 : (if ((rd M 67 11) = 3) ∧ ((rd M 67 12) = x1) then (1 : Int) else 0) = 0 := if_neg (by first | omega | grind)
      rw [e0] at hJ
      exact hJ
    · refine x_iconst (dA D_X12_isSign 10 rfl) ?_
      refine x_goto (tgt := 23) (dA D_X12_isSign 11 rfl) (by decide) ?_
      have e0 : (if ((rd M 67 11) = 3) ∧ ((rd M 67 12) = x1) then (1 : Int) else 0) = 1 := if_pos (by first | omega | grind)
      rw [e0] at hJ
      exact hJ
theorem C_X12_isSign {G : GG} {d : Nat} {x1 : Int} {M : MM} {Q : PV → MM → Prop} (h : X G Y_X12_isSign d 0 0 0 [vA 67, vI x1] [] M Q) : C G Y_X12_isSign d 0 0 [vA 67, vI x1] M Q := X.entry (by decide) (Nat.le_of_ble_eq_true rfl) rfl rfl rfl h
theorem S_X12_isSign {G : GG} {d : Nat} {x1 : Int} {M : MM} {Q : PV → MM → Prop} (hS : Sh M) (h0 : inR (rd M 67 11)) (h1 : inR x1) (h2 : inL (rd M 67 12)) (h3 : inL x1) (hd : 1 ≤ d) (h : Q (vI (if ((rd M 67 11) = 3) ∧ ((rd M 67 12) = x1) then 1 else 0)) M) : C G Y_X12_isSign d 0 0 [vA 67, vI x1] M Q := C_X12_isSign (B_X12_isSign_0 hd hS ⟨h0, h1, h2, h3, h⟩)
set_option maxRecDepth 100000 in
theorem B_X12_emit_0 {G : GG} {d : Nat} {k n : Nat} {x1 x2 : Int} {M : MM} {Q : PV → MM → Prop} (hd : 1 ≤ d) (hS : Sh M) (h : 0 ≤ (rd M 67 17) ∧ (rd M 67 17) < 400 ∧ ∀ M3, M3 = wr M 74 (rd M 67 17) x1 → Sh M3 → 0 ≤ (rd M3 67 17) ∧ (rd M3 67 17) < 400 ∧ ∀ M6, M6 = wr M3 75 (rd M3 67 17) x2 → Sh M6 → ∀ M7, M7 = wr M6 67 17 ((rd M6 67 17) + 1) → Sh M7 → Q vU M7) : X G Y_X12_emit d k n 0 [vA 67, vI x1, vI x2] [] M Q := by
  have hd1 : 1 ≤ d := by omega
  refine x_aload_n (dA D_X12_emit 0 rfl) rfl ?_
  refine x_get (v := vA 74) (dA D_X12_emit 1 rfl) fw_RX12_33 (sO_67 hS) (congrArg (rfV G) (sR_67_18 hS)) ?_
  refine x_aload_n (dA D_X12_emit 2 rfl) rfl ?_
  refine x_get (v := vI (rd M 67 17)) (dA D_X12_emit 3 rfl) fw_RX12_220 (sO_67 hS) rfl ?_
  refine x_iload_n (dA D_X12_emit 4 rfl) rfl ?_
  obtain ⟨h1, h⟩ := h
  obtain ⟨h2, h⟩ := h
  refine x_iast (dA D_X12_emit 5 rfl) (sA_74 hS h1 h2) ?_
  refine x_nmM (fun M3 eM3 => ?_)
  have hM3 : Sh M3 := eM3 ▸ (sW_74 hS)
  have h := h M3 eM3 hM3
  refine x_aload_n (dA D_X12_emit 6 rfl) rfl ?_
  refine x_get (v := vA 75) (dA D_X12_emit 7 rfl) fw_RX12_36 (sO_67 hM3) (congrArg (rfV G) (sR_67_19 hM3)) ?_
  refine x_aload_n (dA D_X12_emit 8 rfl) rfl ?_
  refine x_get (v := vI (rd M3 67 17)) (dA D_X12_emit 9 rfl) fw_RX12_220 (sO_67 hM3) rfl ?_
  refine x_iload_n (dA D_X12_emit 10 rfl) rfl ?_
  obtain ⟨h4, h⟩ := h
  obtain ⟨h5, h⟩ := h
  refine x_iast (dA D_X12_emit 11 rfl) (sA_75 hM3 h4 h5) ?_
  refine x_nmM (fun M6 eM6 => ?_)
  have hM6 : Sh M6 := eM6 ▸ (sW_75 hM3)
  have h := h M6 eM6 hM6
  refine x_aload_n (dA D_X12_emit 12 rfl) rfl ?_
  refine x_dup (dA D_X12_emit 13 rfl) rfl ?_
  refine x_get (v := vI (rd M6 67 17)) (dA D_X12_emit 14 rfl) fw_RX12_220 (sO_67 hM6) rfl ?_
  refine x_iconst (dA D_X12_emit 15 rfl) ?_
  refine x_iadd (dA D_X12_emit 16 rfl) ?_
  refine x_put (x := (rd M6 67 17) + 1) (dA D_X12_emit 17 rfl) fw_RX12_220 (fun _ _ hc => by cases hc; exact Or.inl rfl) (sO_67 hM6) rfl rfl rfl ?_
  refine x_nmM (fun M7 eM7 => ?_)
  have hM7 : Sh M7 := eM7 ▸ (sW_67_17 hM6)
  have h := h M7 eM7 hM7
  exact x_return (dA D_X12_emit 18 rfl) rfl h
theorem C_X12_emit {G : GG} {d : Nat} {x1 x2 : Int} {M : MM} {Q : PV → MM → Prop} (h : X G Y_X12_emit d 0 0 0 [vA 67, vI x1, vI x2] [] M Q) : C G Y_X12_emit d 0 0 [vA 67, vI x1, vI x2] M Q := X.entry (by decide) (Nat.le_of_ble_eq_true rfl) rfl rfl rfl h
set_option maxRecDepth 100000 in
theorem B_X12_push_0 {G : GG} {d : Nat} {k n : Nat} {x1 x2 : Int} {M : MM} {Q : PV → MM → Prop} (hd : 1 ≤ d) (hS : Sh M) (h : 0 ≤ (rd M 67 23) ∧ (rd M 67 23) < 400 ∧ ∀ M3, M3 = wr M 76 (rd M 67 23) x1 → Sh M3 → 0 ≤ (rd M3 67 23) ∧ (rd M3 67 23) < 400 ∧ ∀ M6, M6 = wr M3 77 (rd M3 67 23) x2 → Sh M6 → ∀ M7, M7 = wr M6 67 23 ((rd M6 67 23) + 1) → Sh M7 → Q vU M7) : X G Y_X12_push d k n 0 [vA 67, vI x1, vI x2] [] M Q := by
  have hd1 : 1 ≤ d := by omega
  refine x_aload_n (dA D_X12_push 0 rfl) rfl ?_
  refine x_get (v := vA 76) (dA D_X12_push 1 rfl) fw_RX12_39 (sO_67 hS) (congrArg (rfV G) (sR_67_21 hS)) ?_
  refine x_aload_n (dA D_X12_push 2 rfl) rfl ?_
  refine x_get (v := vI (rd M 67 23)) (dA D_X12_push 3 rfl) fw_RX12_223 (sO_67 hS) rfl ?_
  refine x_iload_n (dA D_X12_push 4 rfl) rfl ?_
  obtain ⟨h1, h⟩ := h
  obtain ⟨h2, h⟩ := h
  refine x_iast (dA D_X12_push 5 rfl) (sA_76 hS h1 h2) ?_
  refine x_nmM (fun M3 eM3 => ?_)
  have hM3 : Sh M3 := eM3 ▸ (sW_76 hS)
  have h := h M3 eM3 hM3
  refine x_aload_n (dA D_X12_push 6 rfl) rfl ?_
  refine x_get (v := vA 77) (dA D_X12_push 7 rfl) fw_RX12_42 (sO_67 hM3) (congrArg (rfV G) (sR_67_22 hM3)) ?_
  refine x_aload_n (dA D_X12_push 8 rfl) rfl ?_
  refine x_get (v := vI (rd M3 67 23)) (dA D_X12_push 9 rfl) fw_RX12_223 (sO_67 hM3) rfl ?_
  refine x_iload_n (dA D_X12_push 10 rfl) rfl ?_
  obtain ⟨h4, h⟩ := h
  obtain ⟨h5, h⟩ := h
  refine x_iast (dA D_X12_push 11 rfl) (sA_77 hM3 h4 h5) ?_
  refine x_nmM (fun M6 eM6 => ?_)
  have hM6 : Sh M6 := eM6 ▸ (sW_77 hM3)
  have h := h M6 eM6 hM6
  refine x_aload_n (dA D_X12_push 12 rfl) rfl ?_
  refine x_dup (dA D_X12_push 13 rfl) rfl ?_
  refine x_get (v := vI (rd M6 67 23)) (dA D_X12_push 14 rfl) fw_RX12_223 (sO_67 hM6) rfl ?_
  refine x_iconst (dA D_X12_push 15 rfl) ?_
  refine x_iadd (dA D_X12_push 16 rfl) ?_
  refine x_put (x := (rd M6 67 23) + 1) (dA D_X12_push 17 rfl) fw_RX12_223 (fun _ _ hc => by cases hc; exact Or.inl rfl) (sO_67 hM6) rfl rfl rfl ?_
  refine x_nmM (fun M7 eM7 => ?_)
  have hM7 : Sh M7 := eM7 ▸ (sW_67_23 hM6)
  have h := h M7 eM7 hM7
  exact x_return (dA D_X12_push 18 rfl) rfl h
theorem C_X12_push {G : GG} {d : Nat} {x1 x2 : Int} {M : MM} {Q : PV → MM → Prop} (h : X G Y_X12_push d 0 0 0 [vA 67, vI x1, vI x2] [] M Q) : C G Y_X12_push d 0 0 [vA 67, vI x1, vI x2] M Q := X.entry (by decide) (Nat.le_of_ble_eq_true rfl) rfl rfl rfl h
set_option maxRecDepth 100000 in
theorem B_X12_binds_0 {G : GG} {d : Nat} {k n : Nat} {x0 : Int} {M : MM} {Q : PV → MM → Prop} (hd : 1 ≤ d) (h : inR x0 ∧ Q (vI (if x0 < 30 then (if x0 ≠ 29 then (if x0 ≠ 28 then (if x0 ≠ 27 then (if x0 < 24 then (if x0 < 22 then 5 else 6) else 4) else 3) else 2) else 1) else 0)) M) : X G Y_X12_binds d k n 0 [vI x0] [] M Q := by
  have hd1 : 1 ≤ d := by omega
  refine x_iload_n (dA D_X12_binds 0 rfl) rfl ?_
  refine x_bipush (dA D_X12_binds 1 rfl) (by decide) (by decide) ?_
  obtain ⟨h2, h⟩ := h
  have hJ : X G Y_X12_binds d k n 62 [vI x0] [vI (if x0 < 30 then (if x0 ≠ 29 then (if x0 ≠ 28 then (if x0 ≠ 27 then (if x0 < 24 then (if x0 < 22 then 5 else 6) else 4) else 3) else 2) else 1) else 0)] M Q := by
    exact x_ireturn (dA D_X12_binds 31 rfl) rfl h
  refine x_icmp_ltP (tgt := 10) (dA D_X12_binds 2 rfl) (by decide) h2 ⟨by decide, by decide⟩ ⟨fun c1 => ?_, fun c1 => ?_⟩
  · refine x_iload_n (dA D_X12_binds 5 rfl) rfl ?_
    refine x_bipush (dA D_X12_binds 6 rfl) (by decide) (by decide) ?_
    refine x_icmp_neP (tgt := 20) (dA D_X12_binds 7 rfl) (by decide) h2 ⟨by decide, by decide⟩ ⟨fun c5 => ?_, fun c5 => ?_⟩
    · refine x_iload_n (dA D_X12_binds 10 rfl) rfl ?_
      refine x_bipush (dA D_X12_binds 11 rfl) (by decide) (by decide) ?_
      refine x_icmp_neP (tgt := 30) (dA D_X12_binds 12 rfl) (by decide) h2 ⟨by decide, by decide⟩ ⟨fun c8 => ?_, fun c8 => ?_⟩
      · refine x_iload_n (dA D_X12_binds 15 rfl) rfl ?_
        refine x_bipush (dA D_X12_binds 16 rfl) (by decide) (by decide) ?_
        refine x_icmp_neP (tgt := 40) (dA D_X12_binds 17 rfl) (by decide) h2 ⟨by decide, by decide⟩ ⟨fun c11 => ?_, fun c11 => ?_⟩
        · refine x_iload_n (dA D_X12_binds 20 rfl) rfl ?_
          refine x_bipush (dA D_X12_binds 21 rfl) (by decide) (by decide) ?_
          refine x_icmp_ltP (tgt := 50) (dA D_X12_binds 22 rfl) (by decide) h2 ⟨by decide, by decide⟩ ⟨fun c14 => ?_, fun c14 => ?_⟩
          · refine x_iload_n (dA D_X12_binds 25 rfl) rfl ?_
            refine x_bipush (dA D_X12_binds 26 rfl) (by decide) (by decide) ?_
            refine x_icmp_ltP (tgt := 61) (dA D_X12_binds 27 rfl) (by decide) h2 ⟨by decide, by decide⟩ ⟨fun c17 => ?_, fun c17 => ?_⟩
            · refine x_iconst (dA D_X12_binds 30 rfl) ?_
              rw [if_pos c1, if_pos c5, if_pos c8, if_pos c11, if_pos c14, if_pos c17] at hJ
              exact hJ
            · refine x_bipush (dA D_X12_binds 28 rfl) (by decide) (by decide) ?_
              refine x_goto (tgt := 62) (dA D_X12_binds 29 rfl) (by decide) ?_
              rw [if_pos c1, if_pos c5, if_pos c8, if_pos c11, if_pos c14, if_neg (by first | omega | grind)] at hJ
              exact hJ
          · refine x_iconst (dA D_X12_binds 23 rfl) ?_
            refine x_goto (tgt := 62) (dA D_X12_binds 24 rfl) (by decide) ?_
            rw [if_pos c1, if_pos c5, if_pos c8, if_pos c11, if_neg (by first | omega | grind)] at hJ
            exact hJ
        · refine x_iconst (dA D_X12_binds 18 rfl) ?_
          refine x_goto (tgt := 62) (dA D_X12_binds 19 rfl) (by decide) ?_
          rw [if_pos c1, if_pos c5, if_pos c8, if_neg (by first | omega | grind)] at hJ
          exact hJ
      · refine x_iconst (dA D_X12_binds 13 rfl) ?_
        refine x_goto (tgt := 62) (dA D_X12_binds 14 rfl) (by decide) ?_
        rw [if_pos c1, if_pos c5, if_neg (by first | omega | grind)] at hJ
        exact hJ
    · refine x_iconst (dA D_X12_binds 8 rfl) ?_
      refine x_goto (tgt := 62) (dA D_X12_binds 9 rfl) (by decide) ?_
      rw [if_pos c1, if_neg (by first | omega | grind)] at hJ
      exact hJ
  · refine x_iconst (dA D_X12_binds 3 rfl) ?_
    refine x_goto (tgt := 62) (dA D_X12_binds 4 rfl) (by decide) ?_
    rw [if_neg (by first | omega | grind)] at hJ
    exact hJ
theorem C_X12_binds {G : GG} {d : Nat} {x0 : Int} {M : MM} {Q : PV → MM → Prop} (h : X G Y_X12_binds d 0 0 0 [vI x0] [] M Q) : C G Y_X12_binds d 0 0 [vI x0] M Q := X.entry (by decide) (Nat.le_of_ble_eq_true rfl) rfl rfl rfl h
theorem S_X12_binds {G : GG} {d : Nat} {x0 : Int} {M : MM} {Q : PV → MM → Prop} (h0 : inR x0) (hd : 1 ≤ d) (h : Q (vI (if x0 < 30 then (if x0 ≠ 29 then (if x0 ≠ 28 then (if x0 ≠ 27 then (if x0 < 24 then (if x0 < 22 then 5 else 6) else 4) else 3) else 2) else 1) else 0)) M) : C G Y_X12_binds d 0 0 [vI x0] M Q := C_X12_binds (B_X12_binds_0 hd ⟨h0, h⟩)
set_option maxRecDepth 100000 in
theorem B_X12_inner_0 {G : GG} {d : Nat} {k n : Nat} {M : MM} {Q : PV → MM → Prop} (hd : 1 ≤ d) (hS : Sh M) (h : X G Y_X12_inner d k n 4 [vA 67, vI (-1), vI 0] [] M Q) : X G Y_X12_inner d k n 0 [vA 67, vU, vU] [] M Q := by
  have hd1 : 1 ≤ d := by omega
  refine x_iconst (dA D_X12_inner 0 rfl) ?_
  refine x_istore_n (xs' := [vA 67, vI (-1), vU]) (dA D_X12_inner 1 rfl) (by decide) rfl ?_
  refine x_iconst (dA D_X12_inner 2 rfl) ?_
  refine x_istore_n (xs' := [vA 67, vI (-1), vI 0]) (dA D_X12_inner 3 rfl) (by decide) rfl ?_
  exact h
theorem C_X12_inner {G : GG} {d : Nat} {M : MM} {Q : PV → MM → Prop} (h : X G Y_X12_inner d 0 0 0 [vA 67, vU, vU] [] M Q) : C G Y_X12_inner d 0 0 [vA 67] M Q := X.entry (by decide) (Nat.le_of_ble_eq_true rfl) rfl rfl rfl h
set_option maxRecDepth 100000 in
theorem B_X12_inner_4 {G : GG} {d : Nat} {k n : Nat} {x1 x2 : Int} {M : MM} {Q : PV → MM → Prop} (hd : 1 ≤ d) (hS : Sh M) (h : inR x2 ∧ inR (rd M 67 23) ∧ (((rd M 67 23) ≤ x2 → Q (vI x1) M) ∧ (x2 < (rd M 67 23) → 0 ≤ x2 ∧ x2 < 400 ∧ inR (rd M 76 x2) ∧ (((rd M 76 x2) < 30 → X G Y_X12_inner d k n 4 [vA 67, vI x1, vI (x2 + 1)] [] M Q) ∧ (30 ≤ (rd M 76 x2) → ∀ v6, v6 = rd M 76 x2 → X G Y_X12_inner d k n 4 [vA 67, vI v6, vI (x2 + 1)] [] M Q))))) : X G Y_X12_inner d k n 4 [vA 67, vI x1, vI x2] [] M Q := by
  have hd1 : 1 ≤ d := by omega
  refine x_iload_n (dA D_X12_inner 4 rfl) rfl ?_
  refine x_aload_n (dA D_X12_inner 5 rfl) rfl ?_
  refine x_get (v := vI (rd M 67 23)) (dA D_X12_inner 6 rfl) fw_RX12_223 (sO_67 hS) rfl ?_
  obtain ⟨h1, h⟩ := h
  obtain ⟨h2, h⟩ := h
  refine x_icmp_geP (tgt := 40) (dA D_X12_inner 7 rfl) (by decide) h1 h2 ⟨fun c => ?_, fun c => ?_⟩
  · have h := h.1 c
    refine x_iload_n (dA D_X12_inner 23 rfl) rfl ?_
    exact x_ireturn (dA D_X12_inner 24 rfl) rfl h
  · have h := h.2 c
    refine x_aload_n (dA D_X12_inner 8 rfl) rfl ?_
    refine x_get (v := vA 76) (dA D_X12_inner 9 rfl) fw_RX12_39 (sO_67 hS) (congrArg (rfV G) (sR_67_21 hS)) ?_
    refine x_iload_n (dA D_X12_inner 10 rfl) rfl ?_
    obtain ⟨h3, h⟩ := h
    obtain ⟨h4, h⟩ := h
    refine x_iald (dA D_X12_inner 11 rfl) (sA_76 hS h3 h4) ?_
    refine x_bipush (dA D_X12_inner 12 rfl) (by decide) (by decide) ?_
    obtain ⟨h5, h⟩ := h
    refine x_icmp_ltP (tgt := 32) (dA D_X12_inner 13 rfl) (by decide) h5 ⟨by decide, by decide⟩ ⟨fun c => ?_, fun c => ?_⟩
    · have h := h.1 c
      refine x_iload_n (dA D_X12_inner 19 rfl) rfl ?_
      refine x_istore_n (xs' := [vA 67, vI x1, vI x2]) (dA D_X12_inner 20 rfl) (by decide) rfl ?_
      refine x_iinc (xs' := [vA 67, vI x1, vI (x2 + 1)]) (dA D_X12_inner 21 rfl) rfl (by decide) rfl ?_
      refine x_goto (tgt := 4) (dA D_X12_inner 22 rfl) (by decide) ?_
      exact h
    · have h := h.2 c
      refine x_aload_n (dA D_X12_inner 14 rfl) rfl ?_
      refine x_get (v := vA 76) (dA D_X12_inner 15 rfl) fw_RX12_39 (sO_67 hS) (congrArg (rfV G) (sR_67_21 hS)) ?_
      refine x_iload_n (dA D_X12_inner 16 rfl) rfl ?_
      refine x_iald (dA D_X12_inner 17 rfl) (sA_76 hS h3 h4) ?_
      refine x_goto (tgt := 33) (dA D_X12_inner 18 rfl) (by decide) ?_
      refine x_nmI (fun v6 ev6 => ?_)
      have h := h v6 ev6
      refine x_istore_n (xs' := [vA 67, vI v6, vI x2]) (dA D_X12_inner 20 rfl) (by decide) rfl ?_
      refine x_iinc (xs' := [vA 67, vI v6, vI (x2 + 1)]) (dA D_X12_inner 21 rfl) rfl (by decide) rfl ?_
      refine x_goto (tgt := 4) (dA D_X12_inner 22 rfl) (by decide) ?_
      exact h
set_option maxRecDepth 100000 in
theorem B_X12_bits_0 {G : GG} {d : Nat} {k n : Nat} {x0 : Int} {M : MM} {Q : PV → MM → Prop} (hd : 1 ≤ d) (h : X G Y_X12_bits d k n 4 [vI x0, vI 0, vI 0] [] M Q) : X G Y_X12_bits d k n 0 [vI x0, vU, vU] [] M Q := by
  have hd1 : 1 ≤ d := by omega
  refine x_iconst (dA D_X12_bits 0 rfl) ?_
  refine x_istore_n (xs' := [vI x0, vI 0, vU]) (dA D_X12_bits 1 rfl) (by decide) rfl ?_
  refine x_iconst (dA D_X12_bits 2 rfl) ?_
  refine x_istore_n (xs' := [vI x0, vI 0, vI 0]) (dA D_X12_bits 3 rfl) (by decide) rfl ?_
  exact h
theorem C_X12_bits {G : GG} {d : Nat} {x0 : Int} {M : MM} {Q : PV → MM → Prop} (h : X G Y_X12_bits d 0 0 0 [vI x0, vU, vU] [] M Q) : C G Y_X12_bits d 0 0 [vI x0] M Q := X.entry (by decide) (Nat.le_of_ble_eq_true rfl) rfl rfl rfl h
set_option maxRecDepth 100000 in
theorem B_X12_bits_4 {G : GG} {d : Nat} {k n : Nat} {x0 x1 x2 : Int} {M : MM} {Q : PV → MM → Prop} (hd : 1 ≤ d) (h : inR x2 ∧ ((5 ≤ x2 → Q (vI x1) M) ∧ (x2 < 5 → ∀ v2, v2 = x1 + (iAnd (iShr x0 x2) 1) → X G Y_X12_bits d k n 4 [vI x0, vI v2, vI (x2 + 1)] [] M Q))) : X G Y_X12_bits d k n 4 [vI x0, vI x1, vI x2] [] M Q := by
  have hd1 : 1 ≤ d := by omega
  refine x_iload_n (dA D_X12_bits 4 rfl) rfl ?_
  refine x_iconst (dA D_X12_bits 5 rfl) ?_
  obtain ⟨h1, h⟩ := h
  refine x_icmp_geP (tgt := 23) (dA D_X12_bits 6 rfl) (by decide) h1 ⟨by decide, by decide⟩ ⟨fun c => ?_, fun c => ?_⟩
  · have h := h.1 c
    refine x_iload_n (dA D_X12_bits 17 rfl) rfl ?_
    exact x_ireturn (dA D_X12_bits 18 rfl) rfl h
  · have h := h.2 c
    refine x_iload_n (dA D_X12_bits 7 rfl) rfl ?_
    refine x_iload_n (dA D_X12_bits 8 rfl) rfl ?_
    refine x_iload_n (dA D_X12_bits 9 rfl) rfl ?_
    refine x_ishr (dA D_X12_bits 10 rfl) ?_
    refine x_iconst (dA D_X12_bits 11 rfl) ?_
    refine x_iand (dA D_X12_bits 12 rfl) ?_
    refine x_iadd (dA D_X12_bits 13 rfl) ?_
    refine x_nmI (fun v2 ev2 => ?_)
    have h := h v2 ev2
    refine x_istore_n (xs' := [vI x0, vI v2, vI x2]) (dA D_X12_bits 14 rfl) (by decide) rfl ?_
    refine x_iinc (xs' := [vI x0, vI v2, vI (x2 + 1)]) (dA D_X12_bits 15 rfl) rfl (by decide) rfl ?_
    refine x_goto (tgt := 4) (dA D_X12_bits 16 rfl) (by decide) ?_
    exact h
set_option maxRecDepth 100000 in
theorem B_X12_stateOf_0 {G : GG} {d : Nat} {k n : Nat} {x0 x1 x2 x3 : Int} {M : MM} {Q : PV → MM → Prop} (hd : 1 ≤ d) (h : Q (vI (((((((x0 * 6) + x1) + 1) * 6) + x2) * 6) + x3)) M) : X G Y_X12_stateOf d k n 0 [vI x0, vI x1, vI x2, vI x3] [] M Q := by
  have hd1 : 1 ≤ d := by omega
  refine x_iload_n (dA D_X12_stateOf 0 rfl) rfl ?_
  refine x_bipush (dA D_X12_stateOf 1 rfl) (by decide) (by decide) ?_
  refine x_imul (dA D_X12_stateOf 2 rfl) ?_
  refine x_iload_n (dA D_X12_stateOf 3 rfl) rfl ?_
  refine x_iadd (dA D_X12_stateOf 4 rfl) ?_
  refine x_iconst (dA D_X12_stateOf 5 rfl) ?_
  refine x_iadd (dA D_X12_stateOf 6 rfl) ?_
  refine x_bipush (dA D_X12_stateOf 7 rfl) (by decide) (by decide) ?_
  refine x_imul (dA D_X12_stateOf 8 rfl) ?_
  refine x_iload_n (dA D_X12_stateOf 9 rfl) rfl ?_
  refine x_iadd (dA D_X12_stateOf 10 rfl) ?_
  refine x_bipush (dA D_X12_stateOf 11 rfl) (by decide) (by decide) ?_
  refine x_imul (dA D_X12_stateOf 12 rfl) ?_
  refine x_iload_n (dA D_X12_stateOf 13 rfl) rfl ?_
  refine x_iadd (dA D_X12_stateOf 14 rfl) ?_
  exact x_ireturn (dA D_X12_stateOf 15 rfl) rfl h
theorem C_X12_stateOf {G : GG} {d : Nat} {x0 x1 x2 x3 : Int} {M : MM} {Q : PV → MM → Prop} (h : X G Y_X12_stateOf d 0 0 0 [vI x0, vI x1, vI x2, vI x3] [] M Q) : C G Y_X12_stateOf d 0 0 [vI x0, vI x1, vI x2, vI x3] M Q := X.entry (by decide) (Nat.le_of_ble_eq_true rfl) rfl rfl rfl h
theorem S_X12_stateOf {G : GG} {d : Nat} {x0 x1 x2 x3 : Int} {M : MM} {Q : PV → MM → Prop} (hd : 1 ≤ d) (h : Q (vI (((((((x0 * 6) + x1) + 1) * 6) + x2) * 6) + x3)) M) : C G Y_X12_stateOf d 0 0 [vI x0, vI x1, vI x2, vI x3] M Q := C_X12_stateOf (B_X12_stateOf_0 hd h)
set_option maxRecDepth 100000 in
theorem B_X12_clear_0 {G : GG} {d : Nat} {k n : Nat} {x0 x1 : Int} {M : MM} {Q : PV → MM → Prop} (hd : 1 ≤ d) (h : X G Y_X12_clear d k n 2 [vA x0, vI x1, vI 0] [] M Q) : X G Y_X12_clear d k n 0 [vA x0, vI x1, vU] [] M Q := by
  have hd1 : 1 ≤ d := by omega
  refine x_iconst (dA D_X12_clear 0 rfl) ?_
  refine x_istore_n (xs' := [vA x0, vI x1, vI 0]) (dA D_X12_clear 1 rfl) (by decide) rfl ?_
  exact h
theorem C_X12_clear {G : GG} {d : Nat} {x0 x1 : Int} {M : MM} {Q : PV → MM → Prop} (h : X G Y_X12_clear d 0 0 0 [vA x0, vI x1, vU] [] M Q) : C G Y_X12_clear d 0 0 [vA x0, vI x1] M Q := X.entry (by decide) (Nat.le_of_ble_eq_true rfl) rfl rfl rfl h
set_option maxRecDepth 100000 in
theorem B_X12_clear_2 {G : GG} {d : Nat} {k n : Nat} {x0 x1 x2 : Int} {M : MM} {Q : PV → MM → Prop} (hd : 1 ≤ d) (h : inR x2 ∧ ((14 ≤ x2 → Q vU M) ∧ (x2 < 14 → okA M x0 21 (x1 + x2) ∧ ∀ M3, M3 = wr M x0 (x1 + x2) 0 → X G Y_X12_clear d k n 2 [vA x0, vI x1, vI (x2 + 1)] [] M3 Q))) : X G Y_X12_clear d k n 2 [vA x0, vI x1, vI x2] [] M Q := by
  have hd1 : 1 ≤ d := by omega
  refine x_iload_n (dA D_X12_clear 2 rfl) rfl ?_
  refine x_bipush (dA D_X12_clear 3 rfl) (by decide) (by decide) ?_
  obtain ⟨h1, h⟩ := h
  refine x_icmp_geP (tgt := 20) (dA D_X12_clear 4 rfl) (by decide) h1 ⟨by decide, by decide⟩ ⟨fun c => ?_, fun c => ?_⟩
  · have h := h.1 c
    exact x_return (dA D_X12_clear 13 rfl) rfl h
  · have h := h.2 c
    refine x_aload_n (dA D_X12_clear 5 rfl) rfl ?_
    refine x_iload_n (dA D_X12_clear 6 rfl) rfl ?_
    refine x_iload_n (dA D_X12_clear 7 rfl) rfl ?_
    refine x_iadd (dA D_X12_clear 8 rfl) ?_
    refine x_lconst (a := 0) (dA D_X12_clear 9 rfl) (by decide) ?_
    obtain ⟨h2, h⟩ := h
    refine x_last (dA D_X12_clear 10 rfl) h2 ?_
    refine x_nmM (fun M3 eM3 => ?_)
    have h := h M3 eM3
    refine x_iinc (xs' := [vA x0, vI x1, vI (x2 + 1)]) (dA D_X12_clear 11 rfl) rfl (by decide) rfl ?_
    refine x_goto (tgt := 2) (dA D_X12_clear 12 rfl) (by decide) ?_
    exact h
set_option maxRecDepth 100000 in
theorem B_X12_add_0 {G : GG} {d : Nat} {k n : Nat} {x0 x1 x2 x3 x4 : Int} {M : MM} {Q : PV → MM → Prop} (hd : 1 ≤ d) (h : X G Y_X12_add d k n 6 [vA x0, vI x1, vA x2, vI x3, vL x4, vU, vL 0, vU, vI 0, vU, vU] [] M Q) : X G Y_X12_add d k n 0 [vA x0, vI x1, vA x2, vI x3, vL x4, vU, vU, vU, vU, vU, vU] [] M Q := by
  have hd1 : 1 ≤ d := by omega
  refine x_lconst (a := 0) (dA D_X12_add 0 rfl) (by decide) ?_
  refine x_lstore (xs' := [vA x0, vI x1, vA x2, vI x3, vL x4, vU, vL 0, vU, vU, vU, vU]) (dA D_X12_add 1 rfl) (by decide) rfl ?_
  refine x_iconst (dA D_X12_add 2 rfl) ?_
  refine x_istore (xs' := [vA x0, vI x1, vA x2, vI x3, vL x4, vU, vL 0, vU, vI 0, vU, vU]) (dA D_X12_add 3 rfl) (by decide) rfl ?_
  exact h
theorem C_X12_add {G : GG} {d : Nat} {x0 x1 x2 x3 x4 : Int} {M : MM} {Q : PV → MM → Prop} (h : X G Y_X12_add d 0 0 0 [vA x0, vI x1, vA x2, vI x3, vL x4, vU, vU, vU, vU, vU, vU] [] M Q) : C G Y_X12_add d 0 0 [vA x0, vI x1, vA x2, vI x3, vL x4] M Q := X.entry (by decide) (Nat.le_of_ble_eq_true rfl) rfl rfl rfl h
set_option maxRecDepth 100000 in
theorem B_X12_add_6 {G : GG} {d : Nat} {k n : Nat} {x0 x1 x2 x3 x4 x6 x8 : Int} {M : MM} {Q : PV → MM → Prop} (hd : 1 ≤ d) (h : inR x8 ∧ ((14 ≤ x8 → Q vU M) ∧ (x8 < 14 → okA M x0 21 (x1 + x8) ∧ okA M x2 21 (x3 + x8) ∧ ∀ v4, v4 = ((rd M x0 (x1 + x8)) + ((rd M x2 (x3 + x8)) * x4)) + x6 → inL v4 ∧ ∀ M6, M6 = wr M x0 (x1 + x8) (Int.tmod v4 100000000) → ∀ v7, v7 = Int.tdiv v4 100000000 → X G Y_X12_add d k n 6 [vA x0, vI x1, vA x2, vI x3, vL x4, vU, vL v7, vU, vI (x8 + 1), vU, vU] [] M6 Q))) : X G Y_X12_add d k n 6 [vA x0, vI x1, vA x2, vI x3, vL x4, vU, vL x6, vU, vI x8, vU, vU] [] M Q := by
  have hd1 : 1 ≤ d := by omega
  refine x_iload (dA D_X12_add 4 rfl) rfl ?_
  refine x_bipush (dA D_X12_add 5 rfl) (by decide) (by decide) ?_
  obtain ⟨h1, h⟩ := h
  refine x_icmp_geP (tgt := 60) (dA D_X12_add 6 rfl) (by decide) h1 ⟨by decide, by decide⟩ ⟨fun c => ?_, fun c => ?_⟩
  · have h := h.1 c
    exact x_return (dA D_X12_add 37 rfl) rfl h
  · have h := h.2 c
    refine x_aload_n (dA D_X12_add 7 rfl) rfl ?_
    refine x_iload_n (dA D_X12_add 8 rfl) rfl ?_
    refine x_iload (dA D_X12_add 9 rfl) rfl ?_
    refine x_iadd (dA D_X12_add 10 rfl) ?_
    obtain ⟨h2, h⟩ := h
    refine x_lald (dA D_X12_add 11 rfl) h2 ?_
    refine x_aload_n (dA D_X12_add 12 rfl) rfl ?_
    refine x_iload_n (dA D_X12_add 13 rfl) rfl ?_
    refine x_iload (dA D_X12_add 14 rfl) rfl ?_
    refine x_iadd (dA D_X12_add 15 rfl) ?_
    obtain ⟨h3, h⟩ := h
    refine x_lald (dA D_X12_add 16 rfl) h3 ?_
    refine x_lload (dA D_X12_add 17 rfl) rfl ?_
    refine x_lmul (dA D_X12_add 18 rfl) ?_
    refine x_ladd (dA D_X12_add 19 rfl) ?_
    refine x_lload (dA D_X12_add 20 rfl) rfl ?_
    refine x_ladd (dA D_X12_add 21 rfl) ?_
    refine x_nmL (fun v4 ev4 => ?_)
    have h := h v4 ev4
    refine x_lstore (xs' := [vA x0, vI x1, vA x2, vI x3, vL x4, vU, vL x6, vU, vI x8, vL v4, vU]) (dA D_X12_add 22 rfl) (by decide) rfl ?_
    refine x_aload_n (dA D_X12_add 23 rfl) rfl ?_
    refine x_iload_n (dA D_X12_add 24 rfl) rfl ?_
    refine x_iload (dA D_X12_add 25 rfl) rfl ?_
    refine x_iadd (dA D_X12_add 26 rfl) ?_
    refine x_lload (dA D_X12_add 27 rfl) rfl ?_
    refine x_ldc2 (a := 100000000) (dA D_X12_add 28 rfl) kl_RX12_359 (by decide) ?_
    obtain ⟨h5, h⟩ := h
    refine x_lrem (dA D_X12_add 29 rfl) h5 ⟨by decide, by decide⟩ (by decide) ?_
    refine x_last (dA D_X12_add 30 rfl) h2 ?_
    refine x_nmM (fun M6 eM6 => ?_)
    have h := h M6 eM6
    refine x_lload (dA D_X12_add 31 rfl) rfl ?_
    refine x_ldc2 (a := 100000000) (dA D_X12_add 32 rfl) kl_RX12_359 (by decide) ?_
    refine x_ldiv (dA D_X12_add 33 rfl) h5 ⟨by decide, by decide⟩ (by decide) ?_
    refine x_nmL (fun v7 ev7 => ?_)
    have h := h v7 ev7
    refine x_lstore (xs' := [vA x0, vI x1, vA x2, vI x3, vL x4, vU, vL v7, vU, vI x8, vL v4, vU]) (dA D_X12_add 34 rfl) (by decide) rfl ?_
    refine x_iinc (xs' := [vA x0, vI x1, vA x2, vI x3, vL x4, vU, vL v7, vU, vI (x8 + 1), vL v4, vU]) (dA D_X12_add 35 rfl) rfl (by decide) rfl ?_
    refine x_goto (tgt := 6) (dA D_X12_add 36 rfl) (by decide) ?_
    refine X.weak (xs' := [vA x0, vI x1, vA x2, vI x3, vL x4, vU, vL v7, vU, vI (x8 + 1), vU, vU]) ⟨Or.inl rfl, Or.inl rfl, Or.inl rfl, Or.inl rfl, Or.inl rfl, Or.inl rfl, Or.inl rfl, Or.inl rfl, Or.inl rfl, Or.inr rfl, Or.inl rfl, trivial⟩ ?_
    exact h
set_option maxRecDepth 100000 in
theorem B_X12_addNumber_0 {G : GG} {d : Nat} {k n : Nat} {x0 x1 x3 : Int} {M : MM} {Q : PV → MM → Prop} (hd : 1 ≤ d) (h : inR x3 ∧ inR (Int.tmod x3 8) ∧ ∀ v9, v9 = (if (Int.tmod x3 8) ≠ 0 then (x1 * 10000) else x1) → ∀ v10, v10 = Int.tdiv x3 8 → X G Y_X12_addNumber d k n 24 [vA x0, vL x1, vU, vI x3, vL v9, vU, vI v10, vU, vU] [] M Q) : X G Y_X12_addNumber d k n 0 [vA x0, vL x1, vU, vI x3, vU, vU, vU, vU, vU] [] M Q := by
  have hd1 : 1 ≤ d := by omega
  refine x_iload_n (dA D_X12_addNumber 0 rfl) rfl ?_
  refine x_bipush (dA D_X12_addNumber 1 rfl) (by decide) (by decide) ?_
  obtain ⟨h1, h⟩ := h
  refine x_irem (dA D_X12_addNumber 2 rfl) h1 ⟨by decide, by decide⟩ (by decide) ?_
  obtain ⟨h3, h⟩ := h
  have hJ : X G Y_X12_addNumber d k n 16 [vA x0, vL x1, vU, vI x3, vU, vU, vU, vU, vU] [vL (if (Int.tmod x3 8) ≠ 0 then (x1 * 10000) else x1)] M Q := by
    refine x_nmL (fun v9 ev9 => ?_)
    have h := h v9 ev9
    refine x_lstore (xs' := [vA x0, vL x1, vU, vI x3, vL v9, vU, vU, vU, vU]) (dA D_X12_addNumber 9 rfl) (by decide) rfl ?_
    refine x_iload_n (dA D_X12_addNumber 10 rfl) rfl ?_
    refine x_bipush (dA D_X12_addNumber 11 rfl) (by decide) (by decide) ?_
    refine x_idiv (dA D_X12_addNumber 12 rfl) h1 ⟨by decide, by decide⟩ (by decide) ?_
    refine x_nmI (fun v10 ev10 => ?_)
    have h := h v10 ev10
    refine x_istore (xs' := [vA x0, vL x1, vU, vI x3, vL v9, vU, vI v10, vU, vU]) (dA D_X12_addNumber 13 rfl) (by decide) rfl ?_
    exact h
  refine x_if_neP (tgt := 11) (dA D_X12_addNumber 3 rfl) (by decide) h3 ⟨fun c2 => ?_, fun c2 => ?_⟩
  · refine x_lload_n (dA D_X12_addNumber 6 rfl) rfl ?_
    refine x_ldc2 (a := 10000) (dA D_X12_addNumber 7 rfl) kl_RX12_361 (by decide) ?_
    refine x_lmul (dA D_X12_addNumber 8 rfl) ?_
    rw [if_pos c2] at hJ
    exact hJ
  · refine x_lload_n (dA D_X12_addNumber 4 rfl) rfl ?_
    refine x_goto (tgt := 16) (dA D_X12_addNumber 5 rfl) (by decide) ?_
    rw [if_neg (by first | omega | grind)] at hJ
    exact hJ
theorem C_X12_addNumber {G : GG} {d : Nat} {x0 x1 x3 : Int} {M : MM} {Q : PV → MM → Prop} (h : X G Y_X12_addNumber d 0 0 0 [vA x0, vL x1, vU, vI x3, vU, vU, vU, vU, vU] [] M Q) : C G Y_X12_addNumber d 0 0 [vA x0, vL x1, vI x3] M Q := X.entry (by decide) (Nat.le_of_ble_eq_true rfl) rfl rfl rfl h
set_option maxRecDepth 100000 in
theorem B_X12_addNumber_24 {G : GG} {d : Nat} {k n : Nat} {x0 x1 x3 x4 x6 : Int} {M : MM} {Q : PV → MM → Prop} (hd : 1 ≤ d) (h : inR x6 ∧ inL x4 ∧ ((((14 ≤ x6) ∨ (x4 ≤ 0)) → Q vU M) ∧ (¬ ((14 ≤ x6) ∨ (x4 ≤ 0)) → okA M x0 21 x6 ∧ ∀ v11, v11 = (rd M x0 x6) + x4 → inL v11 ∧ ∀ M13, M13 = wr M x0 x6 (Int.tmod v11 100000000) → ∀ v14, v14 = Int.tdiv v11 100000000 → X G Y_X12_addNumber d k n 24 [vA x0, vL x1, vU, vI x3, vL v14, vU, vI (x6 + 1), vU, vU] [] M13 Q))) : X G Y_X12_addNumber d k n 24 [vA x0, vL x1, vU, vI x3, vL x4, vU, vI x6, vU, vU] [] M Q := by
  have hd1 : 1 ≤ d := by omega
  refine x_iload (dA D_X12_addNumber 14 rfl) rfl ?_
  refine x_bipush (dA D_X12_addNumber 15 rfl) (by decide) (by decide) ?_
  obtain ⟨h2, h⟩ := h
  obtain ⟨h6, h⟩ := h
  have hA : ((14 ≤ x6) ∨ (x4 ≤ 0)) → X G Y_X12_addNumber d k n 71 [vA x0, vL x1, vU, vI x3, vL x4, vU, vI x6, vU, vU] [] M Q := by
    intro c15
    have h := h.1 c15
    exact x_return (dA D_X12_addNumber 39 rfl) rfl h
  have hB : ¬ ((14 ≤ x6) ∨ (x4 ≤ 0)) → X G Y_X12_addNumber d k n 38 [vA x0, vL x1, vU, vI x3, vL x4, vU, vI x6, vU, vU] [] M Q := by
    intro c15
    have h := h.2 c15
    refine x_aload_n (dA D_X12_addNumber 21 rfl) rfl ?_
    refine x_iload (dA D_X12_addNumber 22 rfl) rfl ?_
    obtain ⟨h10, h⟩ := h
    refine x_lald (dA D_X12_addNumber 23 rfl) h10 ?_
    refine x_lload (dA D_X12_addNumber 24 rfl) rfl ?_
    refine x_ladd (dA D_X12_addNumber 25 rfl) ?_
    refine x_nmL (fun v11 ev11 => ?_)
    have h := h v11 ev11
    refine x_lstore (xs' := [vA x0, vL x1, vU, vI x3, vL x4, vU, vI x6, vL v11, vU]) (dA D_X12_addNumber 26 rfl) (by decide) rfl ?_
    refine x_aload_n (dA D_X12_addNumber 27 rfl) rfl ?_
    refine x_iload (dA D_X12_addNumber 28 rfl) rfl ?_
    refine x_lload (dA D_X12_addNumber 29 rfl) rfl ?_
    refine x_ldc2 (a := 100000000) (dA D_X12_addNumber 30 rfl) kl_RX12_359 (by decide) ?_
    obtain ⟨h12, h⟩ := h
    refine x_lrem (dA D_X12_addNumber 31 rfl) h12 ⟨by decide, by decide⟩ (by decide) ?_
    refine x_last (dA D_X12_addNumber 32 rfl) h10 ?_
    refine x_nmM (fun M13 eM13 => ?_)
    have h := h M13 eM13
    refine x_lload (dA D_X12_addNumber 33 rfl) rfl ?_
    refine x_ldc2 (a := 100000000) (dA D_X12_addNumber 34 rfl) kl_RX12_359 (by decide) ?_
    refine x_ldiv (dA D_X12_addNumber 35 rfl) h12 ⟨by decide, by decide⟩ (by decide) ?_
    refine x_nmL (fun v14 ev14 => ?_)
    have h := h v14 ev14
    refine x_lstore (xs' := [vA x0, vL x1, vU, vI x3, vL v14, vU, vI x6, vL v11, vU]) (dA D_X12_addNumber 36 rfl) (by decide) rfl ?_
    refine x_iinc (xs' := [vA x0, vL x1, vU, vI x3, vL v14, vU, vI (x6 + 1), vL v11, vU]) (dA D_X12_addNumber 37 rfl) rfl (by decide) rfl ?_
    refine x_goto (tgt := 24) (dA D_X12_addNumber 38 rfl) (by decide) ?_
    refine X.weak (xs' := [vA x0, vL x1, vU, vI x3, vL v14, vU, vI (x6 + 1), vU, vU]) ⟨Or.inl rfl, Or.inl rfl, Or.inl rfl, Or.inl rfl, Or.inl rfl, Or.inl rfl, Or.inl rfl, Or.inr rfl, Or.inl rfl, trivial⟩ ?_
    exact h
  refine x_icmp_geP (tgt := 71) (dA D_X12_addNumber 16 rfl) (by decide) h2 ⟨by decide, by decide⟩ ⟨fun c1 => ?_, fun c1 => ?_⟩
  · exact hA (by first | omega | grind)
  · refine x_lload (dA D_X12_addNumber 17 rfl) rfl ?_
    refine x_lconst (a := 0) (dA D_X12_addNumber 18 rfl) (by decide) ?_
    refine x_lcmp_leP (tgt := 71) (dA D_X12_addNumber 19 rfl) (dA D_X12_addNumber 20 rfl) (by decide) h6 ⟨by decide, by decide⟩ ⟨fun c5 => ?_, fun c5 => ?_⟩
    · exact hA (by first | omega | grind)
    · exact hB (by first | omega | grind)
set_option maxRecDepth 100000 in
theorem B_X12_compare_0 {G : GG} {d : Nat} {k n : Nat} {x0 x1 x2 x3 : Int} {M : MM} {Q : PV → MM → Prop} (hd : 1 ≤ d) (h : X G Y_X12_compare d k n 4 [vA x0, vI x1, vA x2, vI x3, vI 13] [] M Q) : X G Y_X12_compare d k n 0 [vA x0, vI x1, vA x2, vI x3, vU] [] M Q := by
  have hd1 : 1 ≤ d := by omega
  refine x_bipush (dA D_X12_compare 0 rfl) (by decide) (by decide) ?_
  refine x_istore (xs' := [vA x0, vI x1, vA x2, vI x3, vI 13]) (dA D_X12_compare 1 rfl) (by decide) rfl ?_
  exact h
theorem C_X12_compare {G : GG} {d : Nat} {x0 x1 x2 x3 : Int} {M : MM} {Q : PV → MM → Prop} (h : X G Y_X12_compare d 0 0 0 [vA x0, vI x1, vA x2, vI x3, vU] [] M Q) : C G Y_X12_compare d 0 0 [vA x0, vI x1, vA x2, vI x3] M Q := X.entry (by decide) (Nat.le_of_ble_eq_true rfl) rfl rfl rfl h
set_option maxRecDepth 100000 in
theorem B_X12_compare_4 {G : GG} {d : Nat} {k n : Nat} {x0 x1 x2 x3 x4 : Int} {M : MM} {Q : PV → MM → Prop} (hd : 1 ≤ d) (h : inR x4 ∧ ((x4 < 0 → Q (vI 0) M) ∧ (0 ≤ x4 → okA M x0 21 (x1 + x4) ∧ okA M x2 21 (x3 + x4) ∧ inL (rd M x0 (x1 + x4)) ∧ inL (rd M x2 (x3 + x4)) ∧ (((rd M x0 (x1 + x4)) = (rd M x2 (x3 + x4)) → X G Y_X12_compare d k n 4 [vA x0, vI x1, vA x2, vI x3, vI (x4 + (-1))] [] M Q) ∧ ((rd M x0 (x1 + x4)) ≠ (rd M x2 (x3 + x4)) → Q (vI (if (rd M x2 (x3 + x4)) ≤ (rd M x0 (x1 + x4)) then 1 else (-1))) M))))) : X G Y_X12_compare d k n 4 [vA x0, vI x1, vA x2, vI x3, vI x4] [] M Q := by
  have hd1 : 1 ≤ d := by omega
  refine x_iload (dA D_X12_compare 2 rfl) rfl ?_
  obtain ⟨h1, h⟩ := h
  refine x_if_ltP (tgt := 53) (dA D_X12_compare 3 rfl) (by decide) h1 ⟨fun c => ?_, fun c => ?_⟩
  · have h := h.1 c
    refine x_iconst (dA D_X12_compare 34 rfl) ?_
    exact x_ireturn (dA D_X12_compare 35 rfl) rfl h
  · have h := h.2 c
    refine x_aload_n (dA D_X12_compare 4 rfl) rfl ?_
    refine x_iload_n (dA D_X12_compare 5 rfl) rfl ?_
    refine x_iload (dA D_X12_compare 6 rfl) rfl ?_
    refine x_iadd (dA D_X12_compare 7 rfl) ?_
    obtain ⟨h2, h⟩ := h
    refine x_lald (dA D_X12_compare 8 rfl) h2 ?_
    refine x_aload_n (dA D_X12_compare 9 rfl) rfl ?_
    refine x_iload_n (dA D_X12_compare 10 rfl) rfl ?_
    refine x_iload (dA D_X12_compare 11 rfl) rfl ?_
    refine x_iadd (dA D_X12_compare 12 rfl) ?_
    obtain ⟨h3, h⟩ := h
    refine x_lald (dA D_X12_compare 13 rfl) h3 ?_
    obtain ⟨h4, h⟩ := h
    obtain ⟨h5, h⟩ := h
    refine x_lcmp_eqP (tgt := 47) (dA D_X12_compare 14 rfl) (dA D_X12_compare 15 rfl) (by decide) h4 h5 ⟨fun c => ?_, fun c => ?_⟩
    · have h := h.1 c
      refine x_iinc (xs' := [vA x0, vI x1, vA x2, vI x3, vI (x4 + (-1))]) (dA D_X12_compare 32 rfl) rfl (by decide) rfl ?_
      refine x_goto (tgt := 4) (dA D_X12_compare 33 rfl) (by decide) ?_
      exact h
    · have h := h.2 c
      refine x_aload_n (dA D_X12_compare 16 rfl) rfl ?_
      refine x_iload_n (dA D_X12_compare 17 rfl) rfl ?_
      refine x_iload (dA D_X12_compare 18 rfl) rfl ?_
      refine x_iadd (dA D_X12_compare 19 rfl) ?_
      refine x_lald (dA D_X12_compare 20 rfl) h2 ?_
      refine x_aload_n (dA D_X12_compare 21 rfl) rfl ?_
      refine x_iload_n (dA D_X12_compare 22 rfl) rfl ?_
      refine x_iload (dA D_X12_compare 23 rfl) rfl ?_
      refine x_iadd (dA D_X12_compare 24 rfl) ?_
      refine x_lald (dA D_X12_compare 25 rfl) h3 ?_
      have hJ : X G Y_X12_compare d k n 46 [vA x0, vI x1, vA x2, vI x3, vI x4] [vI (if (rd M x2 (x3 + x4)) ≤ (rd M x0 (x1 + x4)) then 1 else (-1))] M Q := by
        exact x_ireturn (dA D_X12_compare 31 rfl) rfl h
      refine x_lcmp_geP (tgt := 45) (dA D_X12_compare 26 rfl) (dA D_X12_compare 27 rfl) (by decide) h4 h5 ⟨fun c6 => ?_, fun c6 => ?_⟩
      · refine x_iconst (dA D_X12_compare 30 rfl) ?_
        rw [if_pos c6] at hJ
        exact hJ
      · refine x_iconst (dA D_X12_compare 28 rfl) ?_
        refine x_goto (tgt := 46) (dA D_X12_compare 29 rfl) (by decide) ?_
        rw [if_neg (by first | omega | grind)] at hJ
        exact hJ
set_option maxRecDepth 100000 in
theorem B_X12_digit_0 {G : GG} {d : Nat} {k n : Nat} {x0 x1 : Int} {M : MM} {Q : PV → MM → Prop} (hd : 1 ≤ d) (h : inR x1 ∧ okA M x0 21 (Int.tdiv x1 8) ∧ ∀ v3, v3 = rd M x0 (Int.tdiv x1 8) → ∀ v4, v4 = Int.tmod x1 8 → X G Y_X12_digit d k n 13 [vA x0, vI x1, vL v3, vU, vI v4] [] M Q) : X G Y_X12_digit d k n 0 [vA x0, vI x1, vU, vU, vU] [] M Q := by
  have hd1 : 1 ≤ d := by omega
  refine x_aload_n (dA D_X12_digit 0 rfl) rfl ?_
  refine x_iload_n (dA D_X12_digit 1 rfl) rfl ?_
  refine x_bipush (dA D_X12_digit 2 rfl) (by decide) (by decide) ?_
  obtain ⟨h1, h⟩ := h
  refine x_idiv (dA D_X12_digit 3 rfl) h1 ⟨by decide, by decide⟩ (by decide) ?_
  obtain ⟨h2, h⟩ := h
  refine x_lald (dA D_X12_digit 4 rfl) h2 ?_
  refine x_nmL (fun v3 ev3 => ?_)
  have h := h v3 ev3
  refine x_lstore_n (xs' := [vA x0, vI x1, vL v3, vU, vU]) (dA D_X12_digit 5 rfl) (by decide) rfl ?_
  refine x_iload_n (dA D_X12_digit 6 rfl) rfl ?_
  refine x_bipush (dA D_X12_digit 7 rfl) (by decide) (by decide) ?_
  refine x_irem (dA D_X12_digit 8 rfl) h1 ⟨by decide, by decide⟩ (by decide) ?_
  refine x_nmI (fun v4 ev4 => ?_)
  have h := h v4 ev4
  refine x_istore (xs' := [vA x0, vI x1, vL v3, vU, vI v4]) (dA D_X12_digit 9 rfl) (by decide) rfl ?_
  exact h
theorem C_X12_digit {G : GG} {d : Nat} {x0 x1 : Int} {M : MM} {Q : PV → MM → Prop} (h : X G Y_X12_digit d 0 0 0 [vA x0, vI x1, vU, vU, vU] [] M Q) : C G Y_X12_digit d 0 0 [vA x0, vI x1] M Q := X.entry (by decide) (Nat.le_of_ble_eq_true rfl) rfl rfl rfl h
set_option maxRecDepth 100000 in
theorem B_X12_digit_13 {G : GG} {d : Nat} {k n : Nat} {x0 x1 x2 x4 : Int} {M : MM} {Q : PV → MM → Prop} (hd : 1 ≤ d) (h : inR x4 ∧ ((x4 ≤ 0 → inL x2 ∧ Q (vI (Int.tmod x2 10)) M) ∧ (0 < x4 → inL x2 ∧ ∀ v4, v4 = Int.tdiv x2 10 → X G Y_X12_digit d k n 13 [vA x0, vI x1, vL v4, vU, vI (x4 + (-1))] [] M Q))) : X G Y_X12_digit d k n 13 [vA x0, vI x1, vL x2, vU, vI x4] [] M Q := by
  have hd1 : 1 ≤ d := by omega
  refine x_iload (dA D_X12_digit 10 rfl) rfl ?_
  obtain ⟨h1, h⟩ := h
  refine x_if_leP (tgt := 30) (dA D_X12_digit 11 rfl) (by decide) h1 ⟨fun c => ?_, fun c => ?_⟩
  · have h := h.1 c
    refine x_lload_n (dA D_X12_digit 18 rfl) rfl ?_
    refine x_ldc2 (a := 10) (dA D_X12_digit 19 rfl) kl_RX12_212 (by decide) ?_
    obtain ⟨h2, h⟩ := h
    refine x_lrem (dA D_X12_digit 20 rfl) h2 ⟨by decide, by decide⟩ (by decide) ?_
    refine x_l2i (dA D_X12_digit 21 rfl) ?_
    exact x_ireturn (dA D_X12_digit 22 rfl) rfl h
  · have h := h.2 c
    refine x_lload_n (dA D_X12_digit 12 rfl) rfl ?_
    refine x_ldc2 (a := 10) (dA D_X12_digit 13 rfl) kl_RX12_212 (by decide) ?_
    obtain ⟨h3, h⟩ := h
    refine x_ldiv (dA D_X12_digit 14 rfl) h3 ⟨by decide, by decide⟩ (by decide) ?_
    refine x_nmL (fun v4 ev4 => ?_)
    have h := h v4 ev4
    refine x_lstore_n (xs' := [vA x0, vI x1, vL v4, vU, vI x4]) (dA D_X12_digit 15 rfl) (by decide) rfl ?_
    refine x_iinc (xs' := [vA x0, vI x1, vL v4, vU, vI (x4 + (-1))]) (dA D_X12_digit 16 rfl) rfl (by decide) rfl ?_
    refine x_goto (tgt := 13) (dA D_X12_digit 17 rfl) (by decide) ?_
    exact h
set_option maxRecDepth 100000 in
theorem B_X12_over_0 {G : GG} {d : Nat} {k n : Nat} {x0 x1 : Int} {M : MM} {Q : PV → MM → Prop} (hd : 1 ≤ d) (h : X G Y_X12_over d k n 5 [vI x0, vI x1, vL 1, vU, vI 1] [] M Q) : X G Y_X12_over d k n 0 [vI x0, vI x1, vU, vU, vU] [] M Q := by
  have hd1 : 1 ≤ d := by omega
  refine x_lconst (a := 1) (dA D_X12_over 0 rfl) (by decide) ?_
  refine x_lstore_n (xs' := [vI x0, vI x1, vL 1, vU, vU]) (dA D_X12_over 1 rfl) (by decide) rfl ?_
  refine x_iconst (dA D_X12_over 2 rfl) ?_
  refine x_istore (xs' := [vI x0, vI x1, vL 1, vU, vI 1]) (dA D_X12_over 3 rfl) (by decide) rfl ?_
  exact h
theorem C_X12_over {G : GG} {d : Nat} {x0 x1 : Int} {M : MM} {Q : PV → MM → Prop} (h : X G Y_X12_over d 0 0 0 [vI x0, vI x1, vU, vU, vU] [] M Q) : C G Y_X12_over d 0 0 [vI x0, vI x1] M Q := X.entry (by decide) (Nat.le_of_ble_eq_true rfl) rfl rfl rfl h
set_option maxRecDepth 100000 in
theorem B_X12_over_5 {G : GG} {d : Nat} {k n : Nat} {x0 x1 x2 x4 : Int} {M : MM} {Q : PV → MM → Prop} (hd : 1 ≤ d) (h : inR x4 ∧ inR x1 ∧ ((x1 < x4 → Q (vL x2) M) ∧ (x4 ≤ x1 → inR ((x0 - x1) + x4) ∧ inL (x2 * ((x0 - x1) + x4)) ∧ x4 ≠ 0 ∧ ∀ v6, v6 = Int.tdiv (x2 * ((x0 - x1) + x4)) x4 → X G Y_X12_over d k n 5 [vI x0, vI x1, vL v6, vU, vI (x4 + 1)] [] M Q))) : X G Y_X12_over d k n 5 [vI x0, vI x1, vL x2, vU, vI x4] [] M Q := by
  have hd1 : 1 ≤ d := by omega
  refine x_iload (dA D_X12_over 4 rfl) rfl ?_
  refine x_iload_n (dA D_X12_over 5 rfl) rfl ?_
  obtain ⟨h1, h⟩ := h
  obtain ⟨h2, h⟩ := h
  refine x_icmp_gtP (tgt := 31) (dA D_X12_over 6 rfl) (by decide) h1 h2 ⟨fun c => ?_, fun c => ?_⟩
  · have h := h.1 c
    refine x_lload_n (dA D_X12_over 21 rfl) rfl ?_
    exact x_lreturn (dA D_X12_over 22 rfl) rfl h
  · have h := h.2 c
    refine x_lload_n (dA D_X12_over 7 rfl) rfl ?_
    refine x_iload_n (dA D_X12_over 8 rfl) rfl ?_
    refine x_iload_n (dA D_X12_over 9 rfl) rfl ?_
    refine x_isub (dA D_X12_over 10 rfl) ?_
    refine x_iload (dA D_X12_over 11 rfl) rfl ?_
    refine x_iadd (dA D_X12_over 12 rfl) ?_
    obtain ⟨h3, h⟩ := h
    refine x_i2l (dA D_X12_over 13 rfl) h3 ?_
    refine x_lmul (dA D_X12_over 14 rfl) ?_
    refine x_iload (dA D_X12_over 15 rfl) rfl ?_
    refine x_i2l (dA D_X12_over 16 rfl) h1 ?_
    obtain ⟨h4, h⟩ := h
    obtain ⟨h5, h⟩ := h
    refine x_ldiv (dA D_X12_over 17 rfl) h4 (inR_L h1) h5 ?_
    refine x_nmL (fun v6 ev6 => ?_)
    have h := h v6 ev6
    refine x_lstore_n (xs' := [vI x0, vI x1, vL v6, vU, vI x4]) (dA D_X12_over 18 rfl) (by decide) rfl ?_
    refine x_iinc (xs' := [vI x0, vI x1, vL v6, vU, vI (x4 + 1)]) (dA D_X12_over 19 rfl) rfl (by decide) rfl ?_
    refine x_goto (tgt := 5) (dA D_X12_over 20 rfl) (by decide) ?_
    exact h
set_option maxRecDepth 100000 in
theorem B_X12_draw_0 {G : GG} {d : Nat} {k n : Nat} {x1 : Int} {M : MM} {Q : PV → MM → Prop} (hd : 1 ≤ d) (hS : Sh M) (h : inL (((rd M 67 47) * 1103) + 12345) ∧ ∀ M2, M2 = wr M 67 47 (Int.tmod (((rd M 67 47) * 1103) + 12345) 1000003) → Sh M2 → inR x1 ∧ inL (rd M2 67 47) ∧ x1 ≠ 0 ∧ Q (vI (Int.tmod (rd M2 67 47) x1)) M2) : X G Y_X12_draw d k n 0 [vA 67, vI x1] [] M Q := by
  have hd1 : 1 ≤ d := by omega
  refine x_aload_n (dA D_X12_draw 0 rfl) rfl ?_
  refine x_aload_n (dA D_X12_draw 1 rfl) rfl ?_
  refine x_get (v := vL (rd M 67 47)) (dA D_X12_draw 2 rfl) fw_RX12_490 (sO_67 hS) rfl ?_
  refine x_ldc2 (a := 1103) (dA D_X12_draw 3 rfl) kl_RX12_493 (by decide) ?_
  refine x_lmul (dA D_X12_draw 4 rfl) ?_
  refine x_ldc2 (a := 12345) (dA D_X12_draw 5 rfl) kl_RX12_495 (by decide) ?_
  refine x_ladd (dA D_X12_draw 6 rfl) ?_
  refine x_ldc2 (a := 1000003) (dA D_X12_draw 7 rfl) kl_RX12_497 (by decide) ?_
  obtain ⟨h1, h⟩ := h
  refine x_lrem (dA D_X12_draw 8 rfl) h1 ⟨by decide, by decide⟩ (by decide) ?_
  refine x_put (x := Int.tmod (((rd M 67 47) * 1103) + 12345) 1000003) (dA D_X12_draw 9 rfl) fw_RX12_490 (fun _ _ hc => by cases hc; exact Or.inl rfl) (sO_67 hS) rfl rfl rfl ?_
  refine x_nmM (fun M2 eM2 => ?_)
  have hM2 : Sh M2 := eM2 ▸ (sW_67_47 hS)
  have h := h M2 eM2 hM2
  refine x_aload_n (dA D_X12_draw 10 rfl) rfl ?_
  refine x_get (v := vL (rd M2 67 47)) (dA D_X12_draw 11 rfl) fw_RX12_490 (sO_67 hM2) rfl ?_
  refine x_iload_n (dA D_X12_draw 12 rfl) rfl ?_
  obtain ⟨h3, h⟩ := h
  refine x_i2l (dA D_X12_draw 13 rfl) h3 ?_
  obtain ⟨h4, h⟩ := h
  obtain ⟨h5, h⟩ := h
  refine x_lrem (dA D_X12_draw 14 rfl) h4 (inR_L h3) h5 ?_
  refine x_l2i (dA D_X12_draw 15 rfl) ?_
  exact x_ireturn (dA D_X12_draw 16 rfl) rfl h
theorem C_X12_draw {G : GG} {d : Nat} {x1 : Int} {M : MM} {Q : PV → MM → Prop} (h : X G Y_X12_draw d 0 0 0 [vA 67, vI x1] [] M Q) : C G Y_X12_draw d 0 0 [vA 67, vI x1] M Q := X.entry (by decide) (Nat.le_of_ble_eq_true rfl) rfl rfl rfl h
set_option maxRecDepth 100000 in
theorem B_X0_joined_0 {G : GG} {d : Nat} {k n : Nat} {x0 x1 x3 : Int} {M : MM} {Q : PV → MM → Prop} (hd : 1 ≤ d) (h : inR x0 ∧ ((x0 < 2 ∨ 7 < x0) → inL x1 ∧ inL x3 ∧ Q (vL (if x1 ≠ x3 then 0 else 1)) M) ∧ (x0 = 2 → Q (vL (x1 + x3)) M) ∧ (x0 = 3 → Q (vL (x1 - x3)) M) ∧ (x0 = 4 → Q (vL (x1 * x3)) M) ∧ (x0 = 5 → inL x3 ∧ ((x3 ≠ 0 → inL x1 ∧ x3 ≠ 0 ∧ Q (vL (Int.tdiv x1 x3)) M) ∧ (x3 = 0 → Q (vL 0) M))) ∧ (x0 = 6 → inL x1 ∧ inL x3 ∧ Q (vL (if x3 ≤ x1 then 0 else 1)) M) ∧ (x0 = 7 → inL x1 ∧ inL x3 ∧ Q (vL (if x1 ≤ x3 then 0 else 1)) M)) : X G Y_X0_joined d k n 0 [vI x0, vL x1, vU, vL x3, vU] [] M Q := by
  have hd1 : 1 ≤ d := by omega
  refine x_iload_n (dA D_X0_joined 0 rfl) rfl ?_
  obtain ⟨h1, h⟩ := h
  by_cases hz : x0 < 2 ∨ 7 < x0
  · have h := h.1 hz
    refine x_tblO (tgt := 90) (dA D_X0_joined 1 rfl) (by decide) h1 hz ?_
    refine x_lload_n (dA D_X0_joined 40 rfl) rfl ?_
    refine x_lload_n (dA D_X0_joined 41 rfl) rfl ?_
    obtain ⟨h3, h⟩ := h
    obtain ⟨h4, h⟩ := h
    have hJ : X G Y_X0_joined d k n 101 [vI x0, vL x1, vU, vL x3, vU] [vL (if x1 ≠ x3 then 0 else 1)] M Q := by
      exact x_lreturn (dA D_X0_joined 47 rfl) rfl h
    refine x_lcmp_neP (tgt := 100) (dA D_X0_joined 42 rfl) (dA D_X0_joined 43 rfl) (by decide) h3 h4 ⟨fun c2 => ?_, fun c2 => ?_⟩
    · refine x_lconst (a := 0) (dA D_X0_joined 46 rfl) (by decide) ?_
      rw [if_pos c2] at hJ
      exact hJ
    · refine x_lconst (a := 1) (dA D_X0_joined 44 rfl) (by decide) ?_
      refine x_goto (tgt := 101) (dA D_X0_joined 45 rfl) (by decide) ?_
      rw [if_neg (by first | omega | grind)] at hJ
      exact hJ
  · have h := h.2
    have hq : x0 = 2 ∨ x0 = 3 ∨ x0 = 4 ∨ x0 = 5 ∨ x0 = 6 ∨ x0 = 7 := by omega
    rcases hq with c | c | c | c | c | c
    · have h := h.1 c
      refine x_tblI (off := 39) (tgt := 40) (dA D_X0_joined 1 rfl) h1 (by omega) (by omega) (by rw [c]; rfl) (by decide) ?_
      refine x_lload_n (dA D_X0_joined 2 rfl) rfl ?_
      refine x_lload_n (dA D_X0_joined 3 rfl) rfl ?_
      refine x_ladd (dA D_X0_joined 4 rfl) ?_
      exact x_lreturn (dA D_X0_joined 5 rfl) rfl h
    · have h := h.2.1 c
      refine x_tblI (off := 43) (tgt := 44) (dA D_X0_joined 1 rfl) h1 (by omega) (by omega) (by rw [c]; rfl) (by decide) ?_
      refine x_lload_n (dA D_X0_joined 6 rfl) rfl ?_
      refine x_lload_n (dA D_X0_joined 7 rfl) rfl ?_
      refine x_lsub (dA D_X0_joined 8 rfl) ?_
      exact x_lreturn (dA D_X0_joined 9 rfl) rfl h
    · have h := h.2.2.1 c
      refine x_tblI (off := 47) (tgt := 48) (dA D_X0_joined 1 rfl) h1 (by omega) (by omega) (by rw [c]; rfl) (by decide) ?_
      refine x_lload_n (dA D_X0_joined 10 rfl) rfl ?_
      refine x_lload_n (dA D_X0_joined 11 rfl) rfl ?_
      refine x_lmul (dA D_X0_joined 12 rfl) ?_
      exact x_lreturn (dA D_X0_joined 13 rfl) rfl h
    · have h := h.2.2.2.1 c
      refine x_tblI (off := 51) (tgt := 52) (dA D_X0_joined 1 rfl) h1 (by omega) (by omega) (by rw [c]; rfl) (by decide) ?_
      refine x_lload_n (dA D_X0_joined 14 rfl) rfl ?_
      refine x_lconst (a := 0) (dA D_X0_joined 15 rfl) (by decide) ?_
      obtain ⟨h8, h⟩ := h
      refine x_lcmp_neP (tgt := 62) (dA D_X0_joined 16 rfl) (dA D_X0_joined 17 rfl) (by decide) h8 ⟨by decide, by decide⟩ ⟨fun c => ?_, fun c => ?_⟩
      · have h := h.1 c
        refine x_lload_n (dA D_X0_joined 20 rfl) rfl ?_
        refine x_lload_n (dA D_X0_joined 21 rfl) rfl ?_
        obtain ⟨h9, h⟩ := h
        obtain ⟨h10, h⟩ := h
        refine x_ldiv (dA D_X0_joined 22 rfl) h9 h8 h10 ?_
        exact x_lreturn (dA D_X0_joined 23 rfl) rfl h
      · have h := h.2 c
        refine x_lconst (a := 0) (dA D_X0_joined 18 rfl) (by decide) ?_
        refine x_goto (tgt := 65) (dA D_X0_joined 19 rfl) (by decide) ?_
        exact x_lreturn (dA D_X0_joined 23 rfl) rfl h
    · have h := h.2.2.2.2.1 c
      refine x_tblI (off := 65) (tgt := 66) (dA D_X0_joined 1 rfl) h1 (by omega) (by omega) (by rw [c]; rfl) (by decide) ?_
      refine x_lload_n (dA D_X0_joined 24 rfl) rfl ?_
      refine x_lload_n (dA D_X0_joined 25 rfl) rfl ?_
      obtain ⟨h12, h⟩ := h
      obtain ⟨h13, h⟩ := h
      have hJ : X G Y_X0_joined d k n 77 [vI x0, vL x1, vU, vL x3, vU] [vL (if x3 ≤ x1 then 0 else 1)] M Q := by
        exact x_lreturn (dA D_X0_joined 31 rfl) rfl h
      refine x_lcmp_geP (tgt := 76) (dA D_X0_joined 26 rfl) (dA D_X0_joined 27 rfl) (by decide) h12 h13 ⟨fun c11 => ?_, fun c11 => ?_⟩
      · refine x_lconst (a := 0) (dA D_X0_joined 30 rfl) (by decide) ?_
        rw [if_pos c11] at hJ
        exact hJ
      · refine x_lconst (a := 1) (dA D_X0_joined 28 rfl) (by decide) ?_
        refine x_goto (tgt := 77) (dA D_X0_joined 29 rfl) (by decide) ?_
        rw [if_neg (by first | omega | grind)] at hJ
        exact hJ
    · have h := h.2.2.2.2.2 c
      refine x_tblI (off := 77) (tgt := 78) (dA D_X0_joined 1 rfl) h1 (by omega) (by omega) (by rw [c]; rfl) (by decide) ?_
      refine x_lload_n (dA D_X0_joined 32 rfl) rfl ?_
      refine x_lload_n (dA D_X0_joined 33 rfl) rfl ?_
      obtain ⟨h18, h⟩ := h
      obtain ⟨h19, h⟩ := h
      have hJ : X G Y_X0_joined d k n 89 [vI x0, vL x1, vU, vL x3, vU] [vL (if x1 ≤ x3 then 0 else 1)] M Q := by
        exact x_lreturn (dA D_X0_joined 39 rfl) rfl h
      refine x_lcmp_leP (tgt := 88) (dA D_X0_joined 34 rfl) (dA D_X0_joined 35 rfl) (by decide) h18 h19 ⟨fun c17 => ?_, fun c17 => ?_⟩
      · refine x_lconst (a := 0) (dA D_X0_joined 38 rfl) (by decide) ?_
        rw [if_pos c17] at hJ
        exact hJ
      · refine x_lconst (a := 1) (dA D_X0_joined 36 rfl) (by decide) ?_
        refine x_goto (tgt := 89) (dA D_X0_joined 37 rfl) (by decide) ?_
        rw [if_neg (by first | omega | grind)] at hJ
        exact hJ
theorem C_X0_joined {G : GG} {d : Nat} {x0 x1 x3 : Int} {M : MM} {Q : PV → MM → Prop} (h : X G Y_X0_joined d 0 0 0 [vI x0, vL x1, vU, vL x3, vU] [] M Q) : C G Y_X0_joined d 0 0 [vI x0, vL x1, vL x3] M Q := X.entry (by decide) (Nat.le_of_ble_eq_true rfl) rfl rfl rfl h
set_option maxRecDepth 100000 in
theorem B_X6_bookChanged_0 {G : GG} {d : Nat} {k n : Nat} {M : MM} {Q : PV → MM → Prop} (hd : 1 ≤ d) (hS : Sh M) (h : ∀ M1, M1 = wr M 39 4 0 → Sh M1 → Q vU M1) : X G Y_X6_bookChanged d k n 0 [vA 39] [] M Q := by
  have hd1 : 1 ≤ d := by omega
  refine x_aload_n (dA D_X6_bookChanged 0 rfl) rfl ?_
  refine x_iconst (dA D_X6_bookChanged 1 rfl) ?_
  refine x_put (x := 0) (dA D_X6_bookChanged 2 rfl) fw_RX6_9 (fun _ _ hc => by cases hc; exact Or.inl rfl) (sO_39 hS) rfl (z_nar (by decide)) (z_fit (by decide)) ?_
  refine x_nmM (fun M1 eM1 => ?_)
  have hM1 : Sh M1 := eM1 ▸ (sW_39_4 hS)
  have h := h M1 eM1 hM1
  exact x_return (dA D_X6_bookChanged 3 rfl) rfl h
theorem C_X6_bookChanged {G : GG} {d : Nat} {M : MM} {Q : PV → MM → Prop} (h : X G Y_X6_bookChanged d 0 0 0 [vA 39] [] M Q) : C G Y_X6_bookChanged d 0 0 [vA 39] M Q := X.entry (by decide) (Nat.le_of_ble_eq_true rfl) rfl rfl rfl h
set_option maxRecDepth 100000 in
theorem B_X7_emit_0 {G : GG} {d : Nat} {k n : Nat} {x1 x2 : Int} {M : MM} {Q : PV → MM → Prop} (hd : 1 ≤ d) (hS : Sh M) (h : inR (rd M 16 8) ∧ ((400 ≤ (rd M 16 8) → Q vU M) ∧ ((rd M 16 8) < 400 → 0 ≤ (rd M 16 8) ∧ (rd M 16 8) < 400 ∧ ∀ M4, M4 = wr M 21 (rd M 16 8) (iOr x1 (iShl x2 4)) → Sh M4 → ∀ M5, M5 = wr M4 16 8 ((rd M4 16 8) + 1) → Sh M5 → Q vU M5))) : X G Y_X7_emit d k n 0 [vA 16, vI x1, vI x2] [] M Q := by
  have hd1 : 1 ≤ d := by omega
  refine x_aload_n (dA D_X7_emit 0 rfl) rfl ?_
  refine x_get (v := vI (rd M 16 8)) (dA D_X7_emit 1 rfl) fw_RX7_41 (sO_16 hS) rfl ?_
  refine x_aload_n (dA D_X7_emit 2 rfl) rfl ?_
  refine x_get (v := vA 21) (dA D_X7_emit 3 rfl) fw_RX7_24 (sO_16 hS) (congrArg (rfV G) (sR_16_7 hS)) ?_
  refine x_alenC (len := 400) (by decide) (by decide) (dA D_X7_emit 4 rfl) (sO_21 hS) (sL_21 hS) ?_
  obtain ⟨h1, h⟩ := h
  refine x_icmp_geP (tgt := 36) (dA D_X7_emit 5 rfl) (by decide) h1 ⟨by decide, by decide⟩ ⟨fun c => ?_, fun c => ?_⟩
  · have h := h.1 c
    exact x_return (dA D_X7_emit 22 rfl) rfl h
  · have h := h.2 c
    refine x_aload_n (dA D_X7_emit 6 rfl) rfl ?_
    refine x_get (v := vA 21) (dA D_X7_emit 7 rfl) fw_RX7_24 (sO_16 hS) (congrArg (rfV G) (sR_16_7 hS)) ?_
    refine x_aload_n (dA D_X7_emit 8 rfl) rfl ?_
    refine x_get (v := vI (rd M 16 8)) (dA D_X7_emit 9 rfl) fw_RX7_41 (sO_16 hS) rfl ?_
    refine x_iload_n (dA D_X7_emit 10 rfl) rfl ?_
    refine x_iload_n (dA D_X7_emit 11 rfl) rfl ?_
    refine x_iconst (dA D_X7_emit 12 rfl) ?_
    refine x_ishl (dA D_X7_emit 13 rfl) ?_
    refine x_ior (dA D_X7_emit 14 rfl) ?_
    obtain ⟨h2, h⟩ := h
    obtain ⟨h3, h⟩ := h
    refine x_iast (dA D_X7_emit 15 rfl) (sA_21 hS h2 h3) ?_
    refine x_nmM (fun M4 eM4 => ?_)
    have hM4 : Sh M4 := eM4 ▸ (sW_21 hS)
    have h := h M4 eM4 hM4
    refine x_aload_n (dA D_X7_emit 16 rfl) rfl ?_
    refine x_dup (dA D_X7_emit 17 rfl) rfl ?_
    refine x_get (v := vI (rd M4 16 8)) (dA D_X7_emit 18 rfl) fw_RX7_41 (sO_16 hM4) rfl ?_
    refine x_iconst (dA D_X7_emit 19 rfl) ?_
    refine x_iadd (dA D_X7_emit 20 rfl) ?_
    refine x_put (x := (rd M4 16 8) + 1) (dA D_X7_emit 21 rfl) fw_RX7_41 (fun _ _ hc => by cases hc; exact Or.inl rfl) (sO_16 hM4) rfl rfl rfl ?_
    refine x_nmM (fun M5 eM5 => ?_)
    have hM5 : Sh M5 := eM5 ▸ (sW_16_8 hM4)
    have h := h M5 eM5 hM5
    exact x_return (dA D_X7_emit 22 rfl) rfl h
theorem C_X7_emit {G : GG} {d : Nat} {x1 x2 : Int} {M : MM} {Q : PV → MM → Prop} (h : X G Y_X7_emit d 0 0 0 [vA 16, vI x1, vI x2] [] M Q) : C G Y_X7_emit d 0 0 [vA 16, vI x1, vI x2] M Q := X.entry (by decide) (Nat.le_of_ble_eq_true rfl) rfl rfl rfl h
set_option maxRecDepth 100000 in
theorem B_X9_begins_0 {G : GG} {d : Nat} {k n : Nat} {t x1 x2 : Int} {M : MM} {Q : PV → MM → Prop} (hd : 1 ≤ d) (ht : t = 32 ∨ t = 44) (hS : Sh M) (h : ∀ M1, M1 = wr M t 10 x1 → Sh M1 → ∀ M2, M2 = wr M1 t 11 x2 → Sh M2 → ∀ M3, M3 = wr M2 t 9 ((rd M2 t 9) + 1) → Sh M3 → Q vU M3) : X G Y_X9_begins d k n 0 [vA t, vI x1, vI x2] [] M Q := by
  have hd1 : 1 ≤ d := by omega
  refine x_aload_n (dA D_X9_begins 0 rfl) rfl ?_
  refine x_iload_n (dA D_X9_begins 1 rfl) rfl ?_
  refine x_put (x := x1) (dA D_X9_begins 2 rfl) fw_RX9_39 (fun _ _ hc => by cases hc; exact Or.inl rfl) (sOt_0 ht hS) rfl rfl rfl ?_
  refine x_nmM (fun M1 eM1 => ?_)
  have hM1 : Sh M1 := eM1 ▸ (sWt_0_10 ht hS)
  have h := h M1 eM1 hM1
  refine x_aload_n (dA D_X9_begins 3 rfl) rfl ?_
  refine x_iload_n (dA D_X9_begins 4 rfl) rfl ?_
  refine x_put (x := x2) (dA D_X9_begins 5 rfl) fw_RX9_42 (fun _ _ hc => by cases hc; exact Or.inl rfl) (sOt_0 ht hM1) rfl rfl rfl ?_
  refine x_nmM (fun M2 eM2 => ?_)
  have hM2 : Sh M2 := eM2 ▸ (sWt_0_11 ht hM1)
  have h := h M2 eM2 hM2
  refine x_aload_n (dA D_X9_begins 6 rfl) rfl ?_
  refine x_dup (dA D_X9_begins 7 rfl) rfl ?_
  refine x_get (v := vI (rd M2 t 9)) (dA D_X9_begins 8 rfl) fw_RX9_35 (sOt_0 ht hM2) rfl ?_
  refine x_iconst (dA D_X9_begins 9 rfl) ?_
  refine x_iadd (dA D_X9_begins 10 rfl) ?_
  refine x_put (x := (rd M2 t 9) + 1) (dA D_X9_begins 11 rfl) fw_RX9_35 (fun _ _ hc => by cases hc; exact Or.inl rfl) (sOt_0 ht hM2) rfl rfl rfl ?_
  refine x_nmM (fun M3 eM3 => ?_)
  have hM3 : Sh M3 := eM3 ▸ (sWt_0_9 ht hM2)
  have h := h M3 eM3 hM3
  exact x_return (dA D_X9_begins 12 rfl) rfl h
theorem C_X9_begins {G : GG} {d : Nat} {t x1 x2 : Int} {M : MM} {Q : PV → MM → Prop} (h : X G Y_X9_begins d 0 0 0 [vA t, vI x1, vI x2] [] M Q) : C G Y_X9_begins d 0 0 [vA t, vI x1, vI x2] M Q := X.entry (by decide) (Nat.le_of_ble_eq_true rfl) rfl rfl rfl h
set_option maxRecDepth 100000 in
theorem B_X4_endWithin_0 {G : GG} {d : Nat} {k n : Nat} {x1 : Int} {M : MM} {Q : PV → MM → Prop} (hd : 1 ≤ d) (hS : Sh M) (h : X G Y_X4_endWithin d k n 2 [vA 1, vI x1, vI 0] [] M Q) : X G Y_X4_endWithin d k n 0 [vA 1, vI x1, vU] [] M Q := by
  have hd1 : 1 ≤ d := by omega
  refine x_iconst (dA D_X4_endWithin 0 rfl) ?_
  refine x_istore_n (xs' := [vA 1, vI x1, vI 0]) (dA D_X4_endWithin 1 rfl) (by decide) rfl ?_
  exact h
theorem C_X4_endWithin {G : GG} {d : Nat} {x1 : Int} {M : MM} {Q : PV → MM → Prop} (h : X G Y_X4_endWithin d 0 0 0 [vA 1, vI x1, vU] [] M Q) : C G Y_X4_endWithin d 0 0 [vA 1, vI x1] M Q := X.entry (by decide) (Nat.le_of_ble_eq_true rfl) rfl rfl rfl h
set_option maxRecDepth 100000 in
theorem B_X4_endWithin_2 {G : GG} {d : Nat} {k n : Nat} {x1 x2 : Int} {M : MM} {Q : PV → MM → Prop} (hd : 2 ≤ d) (hS : Sh M) (h : inR x2 ∧ inR (rd M 1 0) ∧ (((rd M 1 0) ≤ x2 → Q (vI 0) M) ∧ (x2 < (rd M 1 0) → (((iAnd (iShr x1 x2) 1) ≠ 1 → X G Y_X4_endWithin d k n 2 [vA 1, vI x1, vI (x2 + 1)] [] M Q) ∧ ((iAnd (iShr x1 x2) 1) = 1 → 0 ≤ x2 ∧ x2 < 5 ∧ inR (rd M 4 x2) ∧ ((¬ ((rd M 4 x2) = 1) → X G Y_X4_endWithin d k n 2 [vA 1, vI x1, vI (x2 + 1)] [] M Q) ∧ ((rd M 4 x2) = 1 → Q (vI 1) M))))))) : X G Y_X4_endWithin d k n 2 [vA 1, vI x1, vI x2] [] M Q := by
  have hd1 : 1 ≤ d := by omega
  refine x_iload_n (dA D_X4_endWithin 2 rfl) rfl ?_
  refine x_aload_n (dA D_X4_endWithin 3 rfl) rfl ?_
  refine x_get (v := vI (rd M 1 0)) (dA D_X4_endWithin 4 rfl) fw_RX4_9 (sO_1 hS) rfl ?_
  obtain ⟨h1, h⟩ := h
  obtain ⟨h2, h⟩ := h
  refine x_icmp_geP (tgt := 35) (dA D_X4_endWithin 5 rfl) (by decide) h1 h2 ⟨fun c => ?_, fun c => ?_⟩
  · have h := h.1 c
    refine x_iconst (dA D_X4_endWithin 21 rfl) ?_
    exact x_zreturn (dA D_X4_endWithin 22 rfl) rfl (by decide) h
  · have h := h.2 c
    refine x_iload_n (dA D_X4_endWithin 6 rfl) rfl ?_
    refine x_iload_n (dA D_X4_endWithin 7 rfl) rfl ?_
    refine x_ishr (dA D_X4_endWithin 8 rfl) ?_
    refine x_iconst (dA D_X4_endWithin 9 rfl) ?_
    refine x_iand (dA D_X4_endWithin 10 rfl) ?_
    refine x_iconst (dA D_X4_endWithin 11 rfl) ?_
    refine x_icmp_neP (tgt := 29) (dA D_X4_endWithin 12 rfl) (by decide) (inR_iAnd _ _) ⟨by decide, by decide⟩ ⟨fun c => ?_, fun c => ?_⟩
    · have h := h.1 c
      refine x_iinc (xs' := [vA 1, vI x1, vI (x2 + 1)]) (dA D_X4_endWithin 19 rfl) rfl (by decide) rfl ?_
      refine x_goto (tgt := 2) (dA D_X4_endWithin 20 rfl) (by decide) ?_
      exact h
    · have h := h.2 c
      refine x_aload_n (dA D_X4_endWithin 13 rfl) rfl ?_
      refine x_iload_n (dA D_X4_endWithin 14 rfl) rfl ?_
      obtain ⟨h3, h⟩ := h
      obtain ⟨h4, h⟩ := h
      obtain ⟨h5, h⟩ := h
      refine x_callV 3 [vI x2] [] (dA D_X4_endWithin 15 rfl) cw_RX4_81 rfl rfl (Nat.le_of_ble_eq_true rfl) (by decide) rfl hd1 (zk k) (zk n) (sO_1 hS) (S_X4_isEnd hS h3 h4 h5 (by omega) ?_) (kI (fun _ _ h => h))
      show X G Y_X4_endWithin d k n 24 [vA 1, vI x1, vI x2] [vI (if (rd M 4 x2) = 1 then 1 else 0)] M Q
      refine x_if_eqB (tgt := 29) (dA D_X4_endWithin 16 rfl) (by decide) ⟨fun c => ?_, fun c => ?_⟩
      · have h := h.1 c
        refine x_iinc (xs' := [vA 1, vI x1, vI (x2 + 1)]) (dA D_X4_endWithin 19 rfl) rfl (by decide) rfl ?_
        refine x_goto (tgt := 2) (dA D_X4_endWithin 20 rfl) (by decide) ?_
        exact h
      · have h := h.2 c
        refine x_iconst (dA D_X4_endWithin 17 rfl) ?_
        exact x_zreturn (dA D_X4_endWithin 18 rfl) rfl (by decide) h
set_option maxRecDepth 100000 in
theorem B_X12_minutesOf_0 {G : GG} {d : Nat} {k n : Nat} {x1 : Int} {M : MM} {Q : PV → MM → Prop} (hd : 1 ≤ d) (hS : Sh M) (h : X G Y_X12_minutesOf d k n 4 [vA 67, vI x1, vI 0, vI 0] [] M Q) : X G Y_X12_minutesOf d k n 0 [vA 67, vI x1, vU, vU] [] M Q := by
  have hd1 : 1 ≤ d := by omega
  refine x_iconst (dA D_X12_minutesOf 0 rfl) ?_
  refine x_istore_n (xs' := [vA 67, vI x1, vI 0, vU]) (dA D_X12_minutesOf 1 rfl) (by decide) rfl ?_
  refine x_iconst (dA D_X12_minutesOf 2 rfl) ?_
  refine x_istore_n (xs' := [vA 67, vI x1, vI 0, vI 0]) (dA D_X12_minutesOf 3 rfl) (by decide) rfl ?_
  exact h
theorem C_X12_minutesOf {G : GG} {d : Nat} {x1 : Int} {M : MM} {Q : PV → MM → Prop} (h : X G Y_X12_minutesOf d 0 0 0 [vA 67, vI x1, vU, vU] [] M Q) : C G Y_X12_minutesOf d 0 0 [vA 67, vI x1] M Q := X.entry (by decide) (Nat.le_of_ble_eq_true rfl) rfl rfl rfl h
set_option maxRecDepth 100000 in
theorem B_X12_minutesOf_4 {G : GG} {d : Nat} {k n : Nat} {x1 x2 x3 : Int} {M : MM} {Q : PV → MM → Prop} (hd : 2 ≤ d) (hS : Sh M) (h : inR x3 ∧ inR (rd M 69 0) ∧ (((rd M 69 0) ≤ x3 → Q (vI x2) M) ∧ (x3 < (rd M 69 0) → ((¬ ((iAnd (iShr x1 x3) 1) = 1) → ∀ v3, v3 = x2 + 0 → X G Y_X12_minutesOf d k n 4 [vA 67, vI x1, vI v3, vI (x3 + 1)] [] M Q) ∧ ((iAnd (iShr x1 x3) 1) = 1 → 0 ≤ ((10 + (3 * x3)) + (0 : Int)) ∧ ((10 + (3 * x3)) + (0 : Int)) < 5460 ∧ ∀ v6, v6 = x2 + (rd M 69 ((10 + (3 * x3)) + (0 : Int))) → X G Y_X12_minutesOf d k n 4 [vA 67, vI x1, vI v6, vI (x3 + 1)] [] M Q))))) : X G Y_X12_minutesOf d k n 4 [vA 67, vI x1, vI x2, vI x3] [] M Q := by
  have hd1 : 1 ≤ d := by omega
  refine x_iload_n (dA D_X12_minutesOf 4 rfl) rfl ?_
  refine x_aload_n (dA D_X12_minutesOf 5 rfl) rfl ?_
  refine x_get (v := vA 69) (dA D_X12_minutesOf 6 rfl) fw_RX12_13 (sO_67 hS) (congrArg (rfV G) (sR_67_3 hS)) ?_
  refine x_iconst (dA D_X12_minutesOf 7 rfl) ?_
  refine x_iald (dA D_X12_minutesOf 8 rfl) (sA_69 hS (by decide) (by decide)) ?_
  obtain ⟨h1, h⟩ := h
  obtain ⟨h2, h⟩ := h
  refine x_icmp_geP (tgt := 41) (dA D_X12_minutesOf 9 rfl) (by decide) h1 h2 ⟨fun c => ?_, fun c => ?_⟩
  · have h := h.1 c
    refine x_iload_n (dA D_X12_minutesOf 25 rfl) rfl ?_
    exact x_ireturn (dA D_X12_minutesOf 26 rfl) rfl h
  · have h := h.2 c
    refine x_iload_n (dA D_X12_minutesOf 10 rfl) rfl ?_
    refine x_iload_n (dA D_X12_minutesOf 11 rfl) rfl ?_
    refine x_iload_n (dA D_X12_minutesOf 12 rfl) rfl ?_
    refine x_callS [vI x1, vI x3] [vI x2] (dA D_X12_minutesOf 13 rfl) cw_RX12_138 rfl rfl (Nat.le_of_ble_eq_true rfl) hd1 (zk k) (zk n) (S_X12_is  (by omega) ?_) (kI (fun _ _ h => h))
    show X G Y_X12_minutesOf d k n 20 [vA 67, vI x1, vI x2, vI x3] [vI (if (iAnd (iShr x1 x3) 1) = 1 then 1 else 0), vI x2] M Q
    refine x_if_eqB (tgt := 32) (dA D_X12_minutesOf 14 rfl) (by decide) ⟨fun c => ?_, fun c => ?_⟩
    · have h := h.1 c
      refine x_iconst (dA D_X12_minutesOf 20 rfl) ?_
      refine x_iadd (dA D_X12_minutesOf 21 rfl) ?_
      refine x_nmI (fun v3 ev3 => ?_)
      have h := h v3 ev3
      refine x_istore_n (xs' := [vA 67, vI x1, vI v3, vI x3]) (dA D_X12_minutesOf 22 rfl) (by decide) rfl ?_
      refine x_iinc (xs' := [vA 67, vI x1, vI v3, vI (x3 + 1)]) (dA D_X12_minutesOf 23 rfl) rfl (by decide) rfl ?_
      refine x_goto (tgt := 4) (dA D_X12_minutesOf 24 rfl) (by decide) ?_
      exact h
    · have h := h.2 c
      refine x_aload_n (dA D_X12_minutesOf 15 rfl) rfl ?_
      refine x_iload_n (dA D_X12_minutesOf 16 rfl) rfl ?_
      refine x_iconst (dA D_X12_minutesOf 17 rfl) ?_
      obtain ⟨h4, h⟩ := h
      obtain ⟨h5, h⟩ := h
      refine x_callV 11 [vI x3, vI 0] [vI x2] (dA D_X12_minutesOf 18 rfl) cw_RX12_350 rfl rfl (Nat.le_of_ble_eq_true rfl) (by decide) rfl hd1 (zk k) (zk n) (sO_67 hS) (S_X12_ofScene hS h4 h5 (by omega) ?_) (kI (fun _ _ h => h))
      show X G Y_X12_minutesOf d k n 29 [vA 67, vI x1, vI x2, vI x3] [vI (rd M 69 ((10 + (3 * x3)) + (0 : Int))), vI x2] M Q
      refine x_goto (tgt := 33) (dA D_X12_minutesOf 19 rfl) (by decide) ?_
      refine x_iadd (dA D_X12_minutesOf 21 rfl) ?_
      refine x_nmI (fun v6 ev6 => ?_)
      have h := h v6 ev6
      refine x_istore_n (xs' := [vA 67, vI x1, vI v6, vI x3]) (dA D_X12_minutesOf 22 rfl) (by decide) rfl ?_
      refine x_iinc (xs' := [vA 67, vI x1, vI v6, vI (x3 + 1)]) (dA D_X12_minutesOf 23 rfl) rfl (by decide) rfl ?_
      refine x_goto (tgt := 4) (dA D_X12_minutesOf 24 rfl) (by decide) ?_
      exact h
set_option maxRecDepth 100000 in
theorem B_X12_isScene_0 {G : GG} {d : Nat} {k n : Nat} {x1 : Int} {M : MM} {Q : PV → MM → Prop} (hd : 2 ≤ d) (hS : Sh M) (h : inR x1 ∧ inR (rd M 69 0) ∧ inL ((rd M 69 0) - 1) ∧ Q (vI (if ((0 : Int) ≤ x1) ∧ (x1 ≤ ((rd M 69 0) - 1)) then 1 else 0)) M) : X G Y_X12_isScene d k n 0 [vA 67, vI x1] [] M Q := by
  have hd1 : 1 ≤ d := by omega
  refine x_iload_n (dA D_X12_isScene 0 rfl) rfl ?_
  obtain ⟨h1, h⟩ := h
  refine x_i2l (dA D_X12_isScene 1 rfl) h1 ?_
  refine x_lconst (a := 0) (dA D_X12_isScene 2 rfl) (by decide) ?_
  refine x_aload_n (dA D_X12_isScene 3 rfl) rfl ?_
  refine x_get (v := vA 69) (dA D_X12_isScene 4 rfl) fw_RX12_13 (sO_67 hS) (congrArg (rfV G) (sR_67_3 hS)) ?_
  refine x_iconst (dA D_X12_isScene 5 rfl) ?_
  refine x_iald (dA D_X12_isScene 6 rfl) (sA_69 hS (by decide) (by decide)) ?_
  obtain ⟨h2, h⟩ := h
  refine x_i2l (dA D_X12_isScene 7 rfl) h2 ?_
  refine x_lconst (a := 1) (dA D_X12_isScene 8 rfl) (by decide) ?_
  refine x_lsub (dA D_X12_isScene 9 rfl) ?_
  obtain ⟨h3, h⟩ := h
  refine x_callS [vL x1, vL 0, vL ((rd M 69 0) - 1)] [] (dA D_X12_isScene 10 rfl) cw_RX12_125 rfl rfl (Nat.le_of_ble_eq_true rfl) hd1 (zk k) (zk n) (S_X12_in (inR_L h1) ⟨by decide, by decide⟩ h3 (by omega) ?_) (kI (fun _ _ h => h))
  show X G Y_X12_isScene d k n 15 [vA 67, vI x1] [vI (if ((0 : Int) ≤ x1) ∧ (x1 ≤ ((rd M 69 0) - 1)) then 1 else 0)] M Q
  exact x_zreturn (dA D_X12_isScene 11 rfl) rfl (by split <;> decide) h
theorem C_X12_isScene {G : GG} {d : Nat} {x1 : Int} {M : MM} {Q : PV → MM → Prop} (h : X G Y_X12_isScene d 0 0 0 [vA 67, vI x1] [] M Q) : C G Y_X12_isScene d 0 0 [vA 67, vI x1] M Q := X.entry (by decide) (Nat.le_of_ble_eq_true rfl) rfl rfl rfl h
theorem S_X12_isScene {G : GG} {d : Nat} {x1 : Int} {M : MM} {Q : PV → MM → Prop} (hS : Sh M) (h0 : inR x1) (h1 : inR (rd M 69 0)) (h2 : inL ((rd M 69 0) - 1)) (hd : 2 ≤ d) (h : Q (vI (if ((0 : Int) ≤ x1) ∧ (x1 ≤ ((rd M 69 0) - 1)) then 1 else 0)) M) : C G Y_X12_isScene d 0 0 [vA 67, vI x1] M Q := C_X12_isScene (B_X12_isScene_0 hd hS ⟨h0, h1, h2, h⟩)
set_option maxRecDepth 100000 in
theorem B_X12_fits_0 {G : GG} {d : Nat} {k n : Nat} {x0 x1 x2 : Int} {M : MM} {Q : PV → MM → Prop} (hd : 2 ≤ d) (h : inR x1 ∧ ((x1 < 0 ∨ 2 < x1) → Q (vI 0) M) ∧ (x1 = 0 → inR x2 ∧ Q (vI (if ((1 : Int) ≤ x2) ∧ (x2 ≤ (60 : Int)) then 1 else 0)) M) ∧ (x1 = 1 → inR x2 ∧ ((¬ (((0 : Int) ≤ x2) ∧ (x2 ≤ (31 : Int))) → Q (vI 0) M) ∧ (((0 : Int) ≤ x2) ∧ (x2 ≤ (31 : Int)) → inR x0 ∧ Q (vI (if (¬ (((0 : Int) ≤ x0) ∧ (x0 ≤ (4 : Int)))) ∨ (¬ ((iAnd (iShr x2 x0) 1) = 1)) then 1 else 0)) M))) ∧ (x1 = 2 → inR x2 ∧ Q (vI (if ((0 : Int) ≤ x2) ∧ (x2 ≤ (1 : Int)) then 1 else 0)) M)) : X G Y_X12_fits d k n 0 [vI x0, vI x1, vI x2] [] M Q := by
  have hd1 : 1 ≤ d := by omega
  refine x_iload_n (dA D_X12_fits 0 rfl) rfl ?_
  obtain ⟨h1, h⟩ := h
  by_cases hz : x1 < 0 ∨ 2 < x1
  · have h := h.1 hz
    refine x_tblO (tgt := 84) (dA D_X12_fits 1 rfl) (by decide) h1 hz ?_
    refine x_iconst (dA D_X12_fits 34 rfl) ?_
    exact x_zreturn (dA D_X12_fits 35 rfl) rfl (by decide) h
  · have h := h.2
    have hq : x1 = 0 ∨ x1 = 1 ∨ x1 = 2 := by omega
    rcases hq with c | c | c
    · have h := h.1 c
      refine x_tblI (off := 27) (tgt := 28) (dA D_X12_fits 1 rfl) h1 (by omega) (by omega) (by rw [c]; rfl) (by decide) ?_
      refine x_iload_n (dA D_X12_fits 2 rfl) rfl ?_
      obtain ⟨h2, h⟩ := h
      refine x_i2l (dA D_X12_fits 3 rfl) h2 ?_
      refine x_lconst (a := 1) (dA D_X12_fits 4 rfl) (by decide) ?_
      refine x_ldc2 (a := 60) (dA D_X12_fits 5 rfl) kl_RX12_132 (by decide) ?_
      refine x_callS [vL x2, vL 1, vL 60] [] (dA D_X12_fits 6 rfl) cw_RX12_125 rfl rfl (Nat.le_of_ble_eq_true rfl) hd1 (zk k) (zk n) (S_X12_in (inR_L h2) ⟨by decide, by decide⟩ ⟨by decide, by decide⟩ (by omega) ?_) (kI (fun _ _ h => h))
      show X G Y_X12_fits d k n 37 [vI x0, vI x1, vI x2] [vI (if ((1 : Int) ≤ x2) ∧ (x2 ≤ (60 : Int)) then 1 else 0)] M Q
      exact x_zreturn (dA D_X12_fits 7 rfl) rfl (by split <;> decide) h
    · have h := h.2.1 c
      refine x_tblI (off := 37) (tgt := 38) (dA D_X12_fits 1 rfl) h1 (by omega) (by omega) (by rw [c]; rfl) (by decide) ?_
      refine x_iload_n (dA D_X12_fits 8 rfl) rfl ?_
      obtain ⟨h3, h⟩ := h
      refine x_i2l (dA D_X12_fits 9 rfl) h3 ?_
      refine x_lconst (a := 0) (dA D_X12_fits 10 rfl) (by decide) ?_
      refine x_ldc2 (a := 31) (dA D_X12_fits 11 rfl) kl_RX12_134 (by decide) ?_
      refine x_callS [vL x2, vL 0, vL 31] [] (dA D_X12_fits 12 rfl) cw_RX12_125 rfl rfl (Nat.le_of_ble_eq_true rfl) hd1 (zk k) (zk n) (S_X12_in (inR_L h3) ⟨by decide, by decide⟩ ⟨by decide, by decide⟩ (by omega) ?_) (kI (fun _ _ h => h))
      show X G Y_X12_fits d k n 47 [vI x0, vI x1, vI x2] [vI (if ((0 : Int) ≤ x2) ∧ (x2 ≤ (31 : Int)) then 1 else 0)] M Q
      refine x_if_eqB (tgt := 74) (dA D_X12_fits 13 rfl) (by decide) ⟨fun c => ?_, fun c => ?_⟩
      · have h := h.1 c
        refine x_iconst (dA D_X12_fits 26 rfl) ?_
        exact x_zreturn (dA D_X12_fits 27 rfl) rfl (by decide) h
      · have h := h.2 c
        refine x_iload_n (dA D_X12_fits 14 rfl) rfl ?_
        obtain ⟨h4, h⟩ := h
        refine x_i2l (dA D_X12_fits 15 rfl) h4 ?_
        refine x_lconst (a := 0) (dA D_X12_fits 16 rfl) (by decide) ?_
        refine x_ldc2 (a := 4) (dA D_X12_fits 17 rfl) kl_RX12_136 (by decide) ?_
        refine x_callS [vL x0, vL 0, vL 4] [] (dA D_X12_fits 18 rfl) cw_RX12_125 rfl rfl (Nat.le_of_ble_eq_true rfl) hd1 (zk k) (zk n) (S_X12_in (inR_L h4) ⟨by decide, by decide⟩ ⟨by decide, by decide⟩ (by omega) ?_) (kI (fun _ _ h => h))
        show X G Y_X12_fits d k n 59 [vI x0, vI x1, vI x2] [vI (if ((0 : Int) ≤ x0) ∧ (x0 ≤ (4 : Int)) then 1 else 0)] M Q
        have hJ : X G Y_X12_fits d k n 75 [vI x0, vI x1, vI x2] [vI (if (¬ (((0 : Int) ≤ x0) ∧ (x0 ≤ (4 : Int)))) ∨ (¬ ((iAnd (iShr x2 x0) 1) = 1)) then 1 else 0)] M Q := by
          exact x_zreturn (dA D_X12_fits 27 rfl) rfl (by split <;> decide) h
        refine x_if_eqB (tgt := 70) (dA D_X12_fits 19 rfl) (by decide) ⟨fun c5 => ?_, fun c5 => ?_⟩
        · refine x_iconst (dA D_X12_fits 24 rfl) ?_
          refine x_goto (tgt := 75) (dA D_X12_fits 25 rfl) (by decide) ?_
          have e0 : (if (¬ (((0 : Int) ≤ x0) ∧ (x0 ≤ (4 : Int)))) ∨ (¬ ((iAnd (iShr x2 x0) 1) = 1)) then (1 : Int) else 0) = 1 := if_pos (by first | omega | grind)
          rw [e0] at hJ
          exact hJ
        · refine x_iload_n (dA D_X12_fits 20 rfl) rfl ?_
          refine x_iload_n (dA D_X12_fits 21 rfl) rfl ?_
          refine x_callS [vI x2, vI x0] [] (dA D_X12_fits 22 rfl) cw_RX12_138 rfl rfl (Nat.le_of_ble_eq_true rfl) hd1 (zk k) (zk n) (S_X12_is  (by omega) ?_) (kI (fun _ _ h => h))
          show X G Y_X12_fits d k n 67 [vI x0, vI x1, vI x2] [vI (if (iAnd (iShr x2 x0) 1) = 1 then 1 else 0)] M Q
          refine x_if_neB (tgt := 74) (dA D_X12_fits 23 rfl) (by decide) ⟨fun c11 => ?_, fun c11 => ?_⟩
          · refine x_iconst (dA D_X12_fits 26 rfl) ?_
            have e0 : (if (¬ (((0 : Int) ≤ x0) ∧ (x0 ≤ (4 : Int)))) ∨ (¬ ((iAnd (iShr x2 x0) 1) = 1)) then (1 : Int) else 0) = 0 := if_neg (by first | omega | grind)
            rw [e0] at hJ
            exact hJ
          · refine x_iconst (dA D_X12_fits 24 rfl) ?_
            refine x_goto (tgt := 75) (dA D_X12_fits 25 rfl) (by decide) ?_
            have e0 : (if (¬ (((0 : Int) ≤ x0) ∧ (x0 ≤ (4 : Int)))) ∨ (¬ ((iAnd (iShr x2 x0) 1) = 1)) then (1 : Int) else 0) = 1 := if_pos (by first | omega | grind)
            rw [e0] at hJ
            exact hJ
    · have h := h.2.2 c
      refine x_tblI (off := 75) (tgt := 76) (dA D_X12_fits 1 rfl) h1 (by omega) (by omega) (by rw [c]; rfl) (by decide) ?_
      refine x_iload_n (dA D_X12_fits 28 rfl) rfl ?_
      obtain ⟨h15, h⟩ := h
      refine x_i2l (dA D_X12_fits 29 rfl) h15 ?_
      refine x_lconst (a := 0) (dA D_X12_fits 30 rfl) (by decide) ?_
      refine x_lconst (a := 1) (dA D_X12_fits 31 rfl) (by decide) ?_
      refine x_callS [vL x2, vL 0, vL 1] [] (dA D_X12_fits 32 rfl) cw_RX12_125 rfl rfl (Nat.le_of_ble_eq_true rfl) hd1 (zk k) (zk n) (S_X12_in (inR_L h15) ⟨by decide, by decide⟩ ⟨by decide, by decide⟩ (by omega) ?_) (kI (fun _ _ h => h))
      show X G Y_X12_fits d k n 83 [vI x0, vI x1, vI x2] [vI (if ((0 : Int) ≤ x2) ∧ (x2 ≤ (1 : Int)) then 1 else 0)] M Q
      exact x_zreturn (dA D_X12_fits 33 rfl) rfl (by split <;> decide) h
theorem C_X12_fits {G : GG} {d : Nat} {x0 x1 x2 : Int} {M : MM} {Q : PV → MM → Prop} (h : X G Y_X12_fits d 0 0 0 [vI x0, vI x1, vI x2] [] M Q) : C G Y_X12_fits d 0 0 [vI x0, vI x1, vI x2] M Q := X.entry (by decide) (Nat.le_of_ble_eq_true rfl) rfl rfl rfl h
set_option maxRecDepth 100000 in
theorem B_X12_isState_0 {G : GG} {d : Nat} {k n : Nat} {x1 x2 : Int} {M : MM} {Q : PV → MM → Prop} (hd : 2 ≤ d) (hS : Sh M) (h : inR x2 ∧ inR x1 ∧ (((if x2 ≠ (-1) then (if (iAnd (iShr x1 x2) 1) = 1 then 1 else 0) else (if x1 ≠ 0 then 0 else 1) : Int) = 0 ∨ (if x2 ≠ (-1) then (if (iAnd (iShr x1 x2) 1) = 1 then 1 else 0) else (if x1 ≠ 0 then 0 else 1) : Int) = 1) ∧ Q (vI (if x2 ≠ (-1) then (if (iAnd (iShr x1 x2) 1) = 1 then 1 else 0) else (if x1 ≠ 0 then 0 else 1))) M)) : X G Y_X12_isState d k n 0 [vA 67, vI x1, vI x2] [] M Q := by
  have hd1 : 1 ≤ d := by omega
  refine x_iload_n (dA D_X12_isState 0 rfl) rfl ?_
  refine x_iconst (dA D_X12_isState 1 rfl) ?_
  obtain ⟨h2, h⟩ := h
  obtain ⟨h8, h⟩ := h
  have hJ : X G Y_X12_isState d k n 22 [vA 67, vI x1, vI x2] [vI (if x2 ≠ (-1) then (if (iAnd (iShr x1 x2) 1) = 1 then 1 else 0) else (if x1 ≠ 0 then 0 else 1))] M Q := by
    exact x_zreturn (dA D_X12_isState 12 rfl) rfl h.1 h.2
  refine x_icmp_neP (tgt := 17) (dA D_X12_isState 2 rfl) (by decide) h2 ⟨by decide, by decide⟩ ⟨fun c1 => ?_, fun c1 => ?_⟩
  · refine x_iload_n (dA D_X12_isState 9 rfl) rfl ?_
    refine x_iload_n (dA D_X12_isState 10 rfl) rfl ?_
    refine x_callS [vI x1, vI x2] [] (dA D_X12_isState 11 rfl) cw_RX12_138 rfl rfl (Nat.le_of_ble_eq_true rfl) hd1 (zk k) (zk n) (S_X12_is  (by omega) ?_) (kI (fun _ _ h => h))
    show X G Y_X12_isState d k n 22 [vA 67, vI x1, vI x2] [vI (if (iAnd (iShr x1 x2) 1) = 1 then 1 else 0)] M Q
    rw [if_pos c1] at hJ
    exact hJ
  · refine x_iload_n (dA D_X12_isState 3 rfl) rfl ?_
    refine x_if_neP (tgt := 13) (dA D_X12_isState 4 rfl) (by decide) h8 ⟨fun c7 => ?_, fun c7 => ?_⟩
    · refine x_iconst (dA D_X12_isState 7 rfl) ?_
      refine x_goto (tgt := 22) (dA D_X12_isState 8 rfl) (by decide) ?_
      rw [if_neg (by first | omega | grind), if_pos c7] at hJ
      exact hJ
    · refine x_iconst (dA D_X12_isState 5 rfl) ?_
      refine x_goto (tgt := 22) (dA D_X12_isState 6 rfl) (by decide) ?_
      rw [if_neg (by first | omega | grind), if_neg (by first | omega | grind)] at hJ
      exact hJ
theorem C_X12_isState {G : GG} {d : Nat} {x1 x2 : Int} {M : MM} {Q : PV → MM → Prop} (h : X G Y_X12_isState d 0 0 0 [vA 67, vI x1, vI x2] [] M Q) : C G Y_X12_isState d 0 0 [vA 67, vI x1, vI x2] M Q := X.entry (by decide) (Nat.le_of_ble_eq_true rfl) rfl rfl rfl h
set_option maxRecDepth 100000 in
theorem B_X12_rootAt_0 {G : GG} {d : Nat} {k n : Nat} {M : MM} {Q : PV → MM → Prop} (hd : 2 ≤ d) (hS : Sh M) (h : Q (vI (14 * ((((((((0 : Int) * 6) + (-1 : Int)) + 1) * 6) + (rd M 69 30)) * 6) + (rd M 69 33)))) M) : X G Y_X12_rootAt d k n 0 [vA 67] [] M Q := by
  have hd1 : 1 ≤ d := by omega
  refine x_bipush (dA D_X12_rootAt 0 rfl) (by decide) (by decide) ?_
  refine x_iconst (dA D_X12_rootAt 1 rfl) ?_
  refine x_iconst (dA D_X12_rootAt 2 rfl) ?_
  refine x_aload_n (dA D_X12_rootAt 3 rfl) rfl ?_
  refine x_get (v := vA 69) (dA D_X12_rootAt 4 rfl) fw_RX12_13 (sO_67 hS) (congrArg (rfV G) (sR_67_3 hS)) ?_
  refine x_bipush (dA D_X12_rootAt 5 rfl) (by decide) (by decide) ?_
  refine x_iald (dA D_X12_rootAt 6 rfl) (sA_69 hS (by decide) (by decide)) ?_
  refine x_aload_n (dA D_X12_rootAt 7 rfl) rfl ?_
  refine x_get (v := vA 69) (dA D_X12_rootAt 8 rfl) fw_RX12_13 (sO_67 hS) (congrArg (rfV G) (sR_67_3 hS)) ?_
  refine x_bipush (dA D_X12_rootAt 9 rfl) (by decide) (by decide) ?_
  refine x_iald (dA D_X12_rootAt 10 rfl) (sA_69 hS (by decide) (by decide)) ?_
  refine x_callS [vI 0, vI (-1), vI (rd M 69 30), vI (rd M 69 33)] [vI 14] (dA D_X12_rootAt 11 rfl) cw_RX12_395 rfl rfl (Nat.le_of_ble_eq_true rfl) hd1 (zk k) (zk n) (S_X12_stateOf  (by omega) ?_) (kI (fun _ _ h => h))
  show X G Y_X12_rootAt d k n 21 [vA 67] [vI ((((((((0 : Int) * 6) + (-1 : Int)) + 1) * 6) + (rd M 69 30)) * 6) + (rd M 69 33)), vI 14] M Q
  refine x_imul (dA D_X12_rootAt 12 rfl) ?_
  exact x_ireturn (dA D_X12_rootAt 13 rfl) rfl h
theorem C_X12_rootAt {G : GG} {d : Nat} {M : MM} {Q : PV → MM → Prop} (h : X G Y_X12_rootAt d 0 0 0 [vA 67] [] M Q) : C G Y_X12_rootAt d 0 0 [vA 67] M Q := X.entry (by decide) (Nat.le_of_ble_eq_true rfl) rfl rfl rfl h
theorem S_X12_rootAt {G : GG} {d : Nat} {M : MM} {Q : PV → MM → Prop} (hS : Sh M) (hd : 2 ≤ d) (h : Q (vI (14 * ((((((((0 : Int) * 6) + (-1 : Int)) + 1) * 6) + (rd M 69 30)) * 6) + (rd M 69 33)))) M) : C G Y_X12_rootAt d 0 0 [vA 67] M Q := C_X12_rootAt (B_X12_rootAt_0 hd hS h)
set_option maxRecDepth 100000 in
theorem B_X12_isChooser_0 {G : GG} {d : Nat} {k n : Nat} {x0 : Int} {M : MM} {Q : PV → MM → Prop} (hd : 2 ≤ d) (h : inR x0 ∧ Q (vI (if ((0 : Int) ≤ x0) ∧ (x0 ≤ (3 : Int)) then 1 else 0)) M) : X G Y_X12_isChooser d k n 0 [vI x0] [] M Q := by
  have hd1 : 1 ≤ d := by omega
  refine x_iload_n (dA D_X12_isChooser 0 rfl) rfl ?_
  obtain ⟨h1, h⟩ := h
  refine x_i2l (dA D_X12_isChooser 1 rfl) h1 ?_
  refine x_lconst (a := 0) (dA D_X12_isChooser 2 rfl) (by decide) ?_
  refine x_ldc2 (a := 3) (dA D_X12_isChooser 3 rfl) kl_RX12_443 (by decide) ?_
  refine x_callS [vL x0, vL 0, vL 3] [] (dA D_X12_isChooser 4 rfl) cw_RX12_125 rfl rfl (Nat.le_of_ble_eq_true rfl) hd1 (zk k) (zk n) (S_X12_in (inR_L h1) ⟨by decide, by decide⟩ ⟨by decide, by decide⟩ (by omega) ?_) (kI (fun _ _ h => h))
  show X G Y_X12_isChooser d k n 9 [vI x0] [vI (if ((0 : Int) ≤ x0) ∧ (x0 ≤ (3 : Int)) then 1 else 0)] M Q
  exact x_zreturn (dA D_X12_isChooser 5 rfl) rfl (by split <;> decide) h
theorem C_X12_isChooser {G : GG} {d : Nat} {x0 : Int} {M : MM} {Q : PV → MM → Prop} (h : X G Y_X12_isChooser d 0 0 0 [vI x0] [] M Q) : C G Y_X12_isChooser d 0 0 [vI x0] M Q := X.entry (by decide) (Nat.le_of_ble_eq_true rfl) rfl rfl rfl h
theorem S_X12_isChooser {G : GG} {d : Nat} {x0 : Int} {M : MM} {Q : PV → MM → Prop} (h0 : inR x0) (hd : 2 ≤ d) (h : Q (vI (if ((0 : Int) ≤ x0) ∧ (x0 ≤ (3 : Int)) then 1 else 0)) M) : C G Y_X12_isChooser d 0 0 [vI x0] M Q := C_X12_isChooser (B_X12_isChooser_0 hd ⟨h0, h⟩)
set_option maxRecDepth 100000 in
theorem B_X12_isSeed_0 {G : GG} {d : Nat} {k n : Nat} {x0 : Int} {M : MM} {Q : PV → MM → Prop} (hd : 2 ≤ d) (h : inR x0 ∧ Q (vI (if ((0 : Int) ≤ x0) ∧ (x0 ≤ (1000000 : Int)) then 1 else 0)) M) : X G Y_X12_isSeed d k n 0 [vI x0] [] M Q := by
  have hd1 : 1 ≤ d := by omega
  refine x_iload_n (dA D_X12_isSeed 0 rfl) rfl ?_
  obtain ⟨h1, h⟩ := h
  refine x_i2l (dA D_X12_isSeed 1 rfl) h1 ?_
  refine x_lconst (a := 0) (dA D_X12_isSeed 2 rfl) (by decide) ?_
  refine x_ldc2 (a := 1000000) (dA D_X12_isSeed 3 rfl) kl_RX12_210 (by decide) ?_
  refine x_callS [vL x0, vL 0, vL 1000000] [] (dA D_X12_isSeed 4 rfl) cw_RX12_125 rfl rfl (Nat.le_of_ble_eq_true rfl) hd1 (zk k) (zk n) (S_X12_in (inR_L h1) ⟨by decide, by decide⟩ ⟨by decide, by decide⟩ (by omega) ?_) (kI (fun _ _ h => h))
  show X G Y_X12_isSeed d k n 9 [vI x0] [vI (if ((0 : Int) ≤ x0) ∧ (x0 ≤ (1000000 : Int)) then 1 else 0)] M Q
  exact x_zreturn (dA D_X12_isSeed 5 rfl) rfl (by split <;> decide) h
theorem C_X12_isSeed {G : GG} {d : Nat} {x0 : Int} {M : MM} {Q : PV → MM → Prop} (h : X G Y_X12_isSeed d 0 0 0 [vI x0] [] M Q) : C G Y_X12_isSeed d 0 0 [vI x0] M Q := X.entry (by decide) (Nat.le_of_ble_eq_true rfl) rfl rfl rfl h
theorem S_X12_isSeed {G : GG} {d : Nat} {x0 : Int} {M : MM} {Q : PV → MM → Prop} (h0 : inR x0) (hd : 2 ≤ d) (h : Q (vI (if ((0 : Int) ≤ x0) ∧ (x0 ≤ (1000000 : Int)) then 1 else 0)) M) : C G Y_X12_isSeed d 0 0 [vI x0] M Q := C_X12_isSeed (B_X12_isSeed_0 hd ⟨h0, h⟩)
set_option maxRecDepth 100000 in
theorem B_X11_isLatest_0 {G : GG} {d : Nat} {k n : Nat} {x0 x1 : Int} {M : MM} {Q : PV → MM → Prop} (hd : 2 ≤ d) (h : inR x0 ∧ ((x0 ≠ 0 → inR x1 ∧ Q (vI (if (0 ≤ x1) ∧ ((x1 < 5) ∧ ((iAnd (iShr x0 x1) 1) = 1)) then 1 else 0)) M) ∧ (x0 = 0 → inR x1 ∧ Q (vI (if x1 = (-1) then 1 else 0)) M))) : X G Y_X11_isLatest d k n 0 [vI x0, vI x1] [] M Q := by
  have hd1 : 1 ≤ d := by omega
  refine x_iload_n (dA D_X11_isLatest 0 rfl) rfl ?_
  obtain ⟨h1, h⟩ := h
  refine x_if_neP (tgt := 17) (dA D_X11_isLatest 1 rfl) (by decide) h1 ⟨fun c => ?_, fun c => ?_⟩
  · have h := h.1 c
    refine x_iload_n (dA D_X11_isLatest 9 rfl) rfl ?_
    refine x_iload_n (dA D_X11_isLatest 10 rfl) rfl ?_
    obtain ⟨h2, h⟩ := h
    refine x_callS [vI x0, vI x1] [] (dA D_X11_isLatest 11 rfl) cw_RX11_125 rfl rfl (Nat.le_of_ble_eq_true rfl) hd1 (zk k) (zk n) (S_X4_holds h2 (by omega) ?_) (kI (fun _ _ h => h))
    show X G Y_X11_isLatest d k n 22 [vI x0, vI x1] [vI (if (0 ≤ x1) ∧ ((x1 < 5) ∧ ((iAnd (iShr x0 x1) 1) = 1)) then 1 else 0)] M Q
    exact x_zreturn (dA D_X11_isLatest 12 rfl) rfl (by split <;> decide) h
  · have h := h.2 c
    refine x_iload_n (dA D_X11_isLatest 2 rfl) rfl ?_
    refine x_iconst (dA D_X11_isLatest 3 rfl) ?_
    obtain ⟨h4, h⟩ := h
    have hJ : X G Y_X11_isLatest d k n 22 [vI x0, vI x1] [vI (if x1 = (-1) then 1 else 0)] M Q := by
      exact x_zreturn (dA D_X11_isLatest 12 rfl) rfl (by split <;> decide) h
    refine x_icmp_neP (tgt := 13) (dA D_X11_isLatest 4 rfl) (by decide) h4 ⟨by decide, by decide⟩ ⟨fun c3 => ?_, fun c3 => ?_⟩
    · refine x_iconst (dA D_X11_isLatest 7 rfl) ?_
      refine x_goto (tgt := 22) (dA D_X11_isLatest 8 rfl) (by decide) ?_
      have e0 : (if x1 = (-1) then (1 : Int) else 0) = 0 := if_neg (by first | omega | grind)
      rw [e0] at hJ
      exact hJ
    · refine x_iconst (dA D_X11_isLatest 5 rfl) ?_
      refine x_goto (tgt := 22) (dA D_X11_isLatest 6 rfl) (by decide) ?_
      have e0 : (if x1 = (-1) then (1 : Int) else 0) = 1 := if_pos (by first | omega | grind)
      rw [e0] at hJ
      exact hJ
theorem C_X11_isLatest {G : GG} {d : Nat} {x0 x1 : Int} {M : MM} {Q : PV → MM → Prop} (h : X G Y_X11_isLatest d 0 0 0 [vI x0, vI x1] [] M Q) : C G Y_X11_isLatest d 0 0 [vI x0, vI x1] M Q := X.entry (by decide) (Nat.le_of_ble_eq_true rfl) rfl rfl rfl h
set_option maxRecDepth 100000 in
theorem B_J6_bitCount_0f7a4_0 {G : GG} {d : Nat} {k n : Nat} {x0 : Int} {M : MM} {Q : PV → MM → Prop} (hd : 1 ≤ d) (h : ∀ v1, v1 = x0 - (iAnd (iUshr x0 1) 1431655765) → ∀ v2, v2 = (iAnd v1 858993459) + (iAnd (iUshr v1 2) 858993459) → ∀ v3, v3 = iAnd (v2 + (iUshr v2 4)) 252645135 → ∀ v4, v4 = v3 + (iUshr v3 8) → ∀ v5, v5 = v4 + (iUshr v4 16) → Q (vI (iAnd v5 63)) M) : X G Y_J6_bitCount_0f7a4 d k n 0 [vI x0] [] M Q := by
  have hd1 : 1 ≤ d := by omega
  refine x_iload_n (dA D_J6_bitCount_0f7a4 0 rfl) rfl ?_
  refine x_iload_n (dA D_J6_bitCount_0f7a4 1 rfl) rfl ?_
  refine x_iconst (dA D_J6_bitCount_0f7a4 2 rfl) ?_
  refine x_iushr (dA D_J6_bitCount_0f7a4 3 rfl) ?_
  refine x_ldcw (a := 1431655765) (dA D_J6_bitCount_0f7a4 4 rfl) ki_RJ6_265 (by decide) ?_
  refine x_iand (dA D_J6_bitCount_0f7a4 5 rfl) ?_
  refine x_isub (dA D_J6_bitCount_0f7a4 6 rfl) ?_
  refine x_nmI (fun v1 ev1 => ?_)
  have h := h v1 ev1
  refine x_istore_n (xs' := [vI v1]) (dA D_J6_bitCount_0f7a4 7 rfl) (by decide) rfl ?_
  refine x_iload_n (dA D_J6_bitCount_0f7a4 8 rfl) rfl ?_
  refine x_ldcw (a := 858993459) (dA D_J6_bitCount_0f7a4 9 rfl) ki_RJ6_266 (by decide) ?_
  refine x_iand (dA D_J6_bitCount_0f7a4 10 rfl) ?_
  refine x_iload_n (dA D_J6_bitCount_0f7a4 11 rfl) rfl ?_
  refine x_iconst (dA D_J6_bitCount_0f7a4 12 rfl) ?_
  refine x_iushr (dA D_J6_bitCount_0f7a4 13 rfl) ?_
  refine x_ldcw (a := 858993459) (dA D_J6_bitCount_0f7a4 14 rfl) ki_RJ6_266 (by decide) ?_
  refine x_iand (dA D_J6_bitCount_0f7a4 15 rfl) ?_
  refine x_iadd (dA D_J6_bitCount_0f7a4 16 rfl) ?_
  refine x_nmI (fun v2 ev2 => ?_)
  have h := h v2 ev2
  refine x_istore_n (xs' := [vI v2]) (dA D_J6_bitCount_0f7a4 17 rfl) (by decide) rfl ?_
  refine x_iload_n (dA D_J6_bitCount_0f7a4 18 rfl) rfl ?_
  refine x_iload_n (dA D_J6_bitCount_0f7a4 19 rfl) rfl ?_
  refine x_iconst (dA D_J6_bitCount_0f7a4 20 rfl) ?_
  refine x_iushr (dA D_J6_bitCount_0f7a4 21 rfl) ?_
  refine x_iadd (dA D_J6_bitCount_0f7a4 22 rfl) ?_
  refine x_ldcw (a := 252645135) (dA D_J6_bitCount_0f7a4 23 rfl) ki_RJ6_267 (by decide) ?_
  refine x_iand (dA D_J6_bitCount_0f7a4 24 rfl) ?_
  refine x_nmI (fun v3 ev3 => ?_)
  have h := h v3 ev3
  refine x_istore_n (xs' := [vI v3]) (dA D_J6_bitCount_0f7a4 25 rfl) (by decide) rfl ?_
  refine x_iload_n (dA D_J6_bitCount_0f7a4 26 rfl) rfl ?_
  refine x_iload_n (dA D_J6_bitCount_0f7a4 27 rfl) rfl ?_
  refine x_bipush (dA D_J6_bitCount_0f7a4 28 rfl) (by decide) (by decide) ?_
  refine x_iushr (dA D_J6_bitCount_0f7a4 29 rfl) ?_
  refine x_iadd (dA D_J6_bitCount_0f7a4 30 rfl) ?_
  refine x_nmI (fun v4 ev4 => ?_)
  have h := h v4 ev4
  refine x_istore_n (xs' := [vI v4]) (dA D_J6_bitCount_0f7a4 31 rfl) (by decide) rfl ?_
  refine x_iload_n (dA D_J6_bitCount_0f7a4 32 rfl) rfl ?_
  refine x_iload_n (dA D_J6_bitCount_0f7a4 33 rfl) rfl ?_
  refine x_bipush (dA D_J6_bitCount_0f7a4 34 rfl) (by decide) (by decide) ?_
  refine x_iushr (dA D_J6_bitCount_0f7a4 35 rfl) ?_
  refine x_iadd (dA D_J6_bitCount_0f7a4 36 rfl) ?_
  refine x_nmI (fun v5 ev5 => ?_)
  have h := h v5 ev5
  refine x_istore_n (xs' := [vI v5]) (dA D_J6_bitCount_0f7a4 37 rfl) (by decide) rfl ?_
  refine x_iload_n (dA D_J6_bitCount_0f7a4 38 rfl) rfl ?_
  refine x_bipush (dA D_J6_bitCount_0f7a4 39 rfl) (by decide) (by decide) ?_
  refine x_iand (dA D_J6_bitCount_0f7a4 40 rfl) ?_
  exact x_ireturn (dA D_J6_bitCount_0f7a4 41 rfl) rfl h
theorem C_J6_bitCount_0f7a4 {G : GG} {d : Nat} {x0 : Int} {M : MM} {Q : PV → MM → Prop} (h : X G Y_J6_bitCount_0f7a4 d 0 0 0 [vI x0] [] M Q) : C G Y_J6_bitCount_0f7a4 d 0 0 [vI x0] M Q := X.entry (by decide) (Nat.le_of_ble_eq_true rfl) rfl rfl rfl h
set_option maxRecDepth 100000 in
theorem B_J7_fill_d0a16_0 {G : GG} {d : Nat} {k n : Nat} {x0 x1 : Int} {M : MM} {Q : PV → MM → Prop} (hd : 1 ≤ d) (h : okO M x0 21 ∧ ∀ v2, v2 = (mT M x0).2 → X G Y_J7_fill_d0a16 d k n 6 [vA x0, vL x1, vU, vI 0, vI v2] [] M Q) : X G Y_J7_fill_d0a16 d k n 0 [vA x0, vL x1, vU, vU, vU] [] M Q := by
  have hd1 : 1 ≤ d := by omega
  refine x_iconst (dA D_J7_fill_d0a16 0 rfl) ?_
  refine x_istore_n (xs' := [vA x0, vL x1, vU, vI 0, vU]) (dA D_J7_fill_d0a16 1 rfl) (by decide) rfl ?_
  refine x_aload_n (dA D_J7_fill_d0a16 2 rfl) rfl ?_
  obtain ⟨h1, h⟩ := h
  refine x_alen (by decide) (by decide) (dA D_J7_fill_d0a16 3 rfl) h1 ?_
  refine x_nmI (fun v2 ev2 => ?_)
  have h := h v2 ev2
  refine x_istore (xs' := [vA x0, vL x1, vU, vI 0, vI v2]) (dA D_J7_fill_d0a16 4 rfl) (by decide) rfl ?_
  exact h
theorem C_J7_fill_d0a16 {G : GG} {d : Nat} {x0 x1 : Int} {M : MM} {Q : PV → MM → Prop} (h : X G Y_J7_fill_d0a16 d 0 0 0 [vA x0, vL x1, vU, vU, vU] [] M Q) : C G Y_J7_fill_d0a16 d 0 0 [vA x0, vL x1] M Q := X.entry (by decide) (Nat.le_of_ble_eq_true rfl) rfl rfl rfl h
set_option maxRecDepth 100000 in
theorem B_J7_fill_d0a16_6 {G : GG} {d : Nat} {k n : Nat} {x0 x1 x3 x4 : Int} {M : MM} {Q : PV → MM → Prop} (hd : 1 ≤ d) (h : inR x3 ∧ inR x4 ∧ ((x4 ≤ x3 → Q vU M) ∧ (x3 < x4 → okA M x0 21 x3 ∧ ∀ M4, M4 = wr M x0 x3 x1 → X G Y_J7_fill_d0a16 d k n 6 [vA x0, vL x1, vU, vI (x3 + 1), vI x4] [] M4 Q))) : X G Y_J7_fill_d0a16 d k n 6 [vA x0, vL x1, vU, vI x3, vI x4] [] M Q := by
  have hd1 : 1 ≤ d := by omega
  refine x_iload_n (dA D_J7_fill_d0a16 5 rfl) rfl ?_
  refine x_iload (dA D_J7_fill_d0a16 6 rfl) rfl ?_
  obtain ⟨h1, h⟩ := h
  obtain ⟨h2, h⟩ := h
  refine x_icmp_geP (tgt := 22) (dA D_J7_fill_d0a16 7 rfl) (by decide) h1 h2 ⟨fun c => ?_, fun c => ?_⟩
  · have h := h.1 c
    exact x_return (dA D_J7_fill_d0a16 14 rfl) rfl h
  · have h := h.2 c
    refine x_aload_n (dA D_J7_fill_d0a16 8 rfl) rfl ?_
    refine x_iload_n (dA D_J7_fill_d0a16 9 rfl) rfl ?_
    refine x_lload_n (dA D_J7_fill_d0a16 10 rfl) rfl ?_
    obtain ⟨h3, h⟩ := h
    refine x_last (dA D_J7_fill_d0a16 11 rfl) h3 ?_
    refine x_nmM (fun M4 eM4 => ?_)
    have h := h M4 eM4
    refine x_iinc (xs' := [vA x0, vL x1, vU, vI (x3 + 1), vI x4]) (dA D_J7_fill_d0a16 12 rfl) rfl (by decide) rfl ?_
    refine x_goto (tgt := 6) (dA D_J7_fill_d0a16 13 rfl) (by decide) ?_
    exact h
set_option maxRecDepth 100000 in
theorem B_J7_fill_53178_0 {G : GG} {d : Nat} {k n : Nat} {x0 x1 : Int} {M : MM} {Q : PV → MM → Prop} (hd : 1 ≤ d) (h : okO M x0 20 ∧ ∀ v2, v2 = (mT M x0).2 → X G Y_J7_fill_53178 d k n 5 [vA x0, vI x1, vI 0, vI v2] [] M Q) : X G Y_J7_fill_53178 d k n 0 [vA x0, vI x1, vU, vU] [] M Q := by
  have hd1 : 1 ≤ d := by omega
  refine x_iconst (dA D_J7_fill_53178 0 rfl) ?_
  refine x_istore_n (xs' := [vA x0, vI x1, vI 0, vU]) (dA D_J7_fill_53178 1 rfl) (by decide) rfl ?_
  refine x_aload_n (dA D_J7_fill_53178 2 rfl) rfl ?_
  obtain ⟨h1, h⟩ := h
  refine x_alen (by decide) (by decide) (dA D_J7_fill_53178 3 rfl) h1 ?_
  refine x_nmI (fun v2 ev2 => ?_)
  have h := h v2 ev2
  refine x_istore_n (xs' := [vA x0, vI x1, vI 0, vI v2]) (dA D_J7_fill_53178 4 rfl) (by decide) rfl ?_
  exact h
theorem C_J7_fill_53178 {G : GG} {d : Nat} {x0 x1 : Int} {M : MM} {Q : PV → MM → Prop} (h : X G Y_J7_fill_53178 d 0 0 0 [vA x0, vI x1, vU, vU] [] M Q) : C G Y_J7_fill_53178 d 0 0 [vA x0, vI x1] M Q := X.entry (by decide) (Nat.le_of_ble_eq_true rfl) rfl rfl rfl h
set_option maxRecDepth 100000 in
theorem B_J7_fill_53178_5 {G : GG} {d : Nat} {k n : Nat} {x0 x1 x2 x3 : Int} {M : MM} {Q : PV → MM → Prop} (hd : 1 ≤ d) (h : inR x2 ∧ inR x3 ∧ ((x3 ≤ x2 → Q vU M) ∧ (x2 < x3 → okA M x0 20 x2 ∧ ∀ M4, M4 = wr M x0 x2 x1 → X G Y_J7_fill_53178 d k n 5 [vA x0, vI x1, vI (x2 + 1), vI x3] [] M4 Q))) : X G Y_J7_fill_53178 d k n 5 [vA x0, vI x1, vI x2, vI x3] [] M Q := by
  have hd1 : 1 ≤ d := by omega
  refine x_iload_n (dA D_J7_fill_53178 5 rfl) rfl ?_
  refine x_iload_n (dA D_J7_fill_53178 6 rfl) rfl ?_
  obtain ⟨h1, h⟩ := h
  obtain ⟨h2, h⟩ := h
  refine x_icmp_geP (tgt := 20) (dA D_J7_fill_53178 7 rfl) (by decide) h1 h2 ⟨fun c => ?_, fun c => ?_⟩
  · have h := h.1 c
    exact x_return (dA D_J7_fill_53178 14 rfl) rfl h
  · have h := h.2 c
    refine x_aload_n (dA D_J7_fill_53178 8 rfl) rfl ?_
    refine x_iload_n (dA D_J7_fill_53178 9 rfl) rfl ?_
    refine x_iload_n (dA D_J7_fill_53178 10 rfl) rfl ?_
    obtain ⟨h3, h⟩ := h
    refine x_iast (dA D_J7_fill_53178 11 rfl) h3 ?_
    refine x_nmM (fun M4 eM4 => ?_)
    have h := h M4 eM4
    refine x_iinc (xs' := [vA x0, vI x1, vI (x2 + 1), vI x3]) (dA D_J7_fill_53178 12 rfl) rfl (by decide) rfl ?_
    refine x_goto (tgt := 5) (dA D_J7_fill_53178 13 rfl) (by decide) ?_
    exact h
set_option maxRecDepth 100000 in
theorem B_J7_rangeCheck_23922_0 {G : GG} {d : Nat} {k n : Nat} {x0 x1 x2 : Int} {M : MM} {Q : PV → MM → Prop} (hd : 1 ≤ d) (h : inR x1 ∧ inR x2 ∧ ((x1 ≤ x2 → ((0 ≤ x1 → inR x0 ∧ ((x2 ≤ x0 → Q vU M) ∧ (x0 < x2 → False))) ∧ (x1 < 0 → False))) ∧ (x2 < x1 → False))) : X G Y_J7_rangeCheck_23922 d k n 0 [vI x0, vI x1, vI x2] [] M Q := by
  have hd1 : 1 ≤ d := by omega
  refine x_iload_n (dA D_J7_rangeCheck_23922 0 rfl) rfl ?_
  refine x_iload_n (dA D_J7_rangeCheck_23922 1 rfl) rfl ?_
  obtain ⟨h1, h⟩ := h
  obtain ⟨h2, h⟩ := h
  refine x_icmp_leP (tgt := 46) (dA D_J7_rangeCheck_23922 2 rfl) (by decide) h1 h2 ⟨fun c => ?_, fun c => ?_⟩
  · have h := h.1 c
    refine x_iload_n (dA D_J7_rangeCheck_23922 21 rfl) rfl ?_
    refine x_if_geP (tgt := 59) (dA D_J7_rangeCheck_23922 22 rfl) (by decide) h1 ⟨fun c => ?_, fun c => ?_⟩
    · have h := h.1 c
      refine x_iload_n (dA D_J7_rangeCheck_23922 28 rfl) rfl ?_
      refine x_iload_n (dA D_J7_rangeCheck_23922 29 rfl) rfl ?_
      obtain ⟨h3, h⟩ := h
      refine x_icmp_leP (tgt := 73) (dA D_J7_rangeCheck_23922 30 rfl) (by decide) h2 h3 ⟨fun c => ?_, fun c => ?_⟩
      · have h := h.1 c
        exact x_return (dA D_J7_rangeCheck_23922 36 rfl) rfl h
      · have h := h.2 c
        exact h.elim
    · have h := h.2 c
      exact h.elim
  · have h := h.2 c
    exact h.elim
theorem C_J7_rangeCheck_23922 {G : GG} {d : Nat} {x0 x1 x2 : Int} {M : MM} {Q : PV → MM → Prop} (h : X G Y_J7_rangeCheck_23922 d 0 0 0 [vI x0, vI x1, vI x2] [] M Q) : C G Y_J7_rangeCheck_23922 d 0 0 [vI x0, vI x1, vI x2] M Q := X.entry (by decide) (Nat.le_of_ble_eq_true rfl) rfl rfl rfl h
