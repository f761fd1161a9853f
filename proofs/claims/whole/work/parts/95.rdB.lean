set_option maxRecDepth 100000 in
theorem B_X7_tokenEnd_0 {G : GG} {d : Nat} {k n : Nat} {x1 x2 : Int} {M : MM} {Q : PV → MM → Prop} (hd : 1 ≤ d) (hS : Sh M) (h : 0 ≤ x2 ∧ x2 < 400 ∧ inR (rd M 14 x2) ∧ (((rd M 14 x2) < 97 → X G Y_X7_tokenEnd d k n 20 [vA 14, vI x1, vI x2, vU, vU, vU, vU, vU, vU] [] M Q) ∧ (97 ≤ (rd M 14 x2) → ((122 < (rd M 14 x2) → X G Y_X7_tokenEnd d k n 20 [vA 14, vI x1, vI x2, vU, vU, vU, vU, vU, vU] [] M Q) ∧ ((rd M 14 x2) ≤ 122 → (((rd M 14 x2) < 48 → X G Y_X7_tokenEnd d k n 42 [vA 14, vI x1, vI x2, vI 1, vU, vU, vU, vU, vU] [] M Q) ∧ (48 ≤ (rd M 14 x2) → ((57 < (rd M 14 x2) → X G Y_X7_tokenEnd d k n 42 [vA 14, vI x1, vI x2, vI 1, vU, vU, vU, vU, vU] [] M Q) ∧ ((rd M 14 x2) ≤ 57 → ∀ v4, v4 = x2 + 1 → X G Y_X7_tokenEnd d k n 80 [vA 14, vI x1, vI x2, vI 1, vI 1, vI 97, vI 122, vI v4, vI v4] [] M Q))))))))) : X G Y_X7_tokenEnd d k n 0 [vA 14, vI x1, vI x2, vU, vU, vU, vU, vU, vU] [] M Q := by
  have hd1 : 1 ≤ d := by omega
  refine x_aload_n (dA D_X7_tokenEnd 0 rfl) rfl ?_
  refine x_iload_n (dA D_X7_tokenEnd 1 rfl) rfl ?_
  obtain ⟨h1, h⟩ := h
  obtain ⟨h2, h⟩ := h
  refine x_iald (dA D_X7_tokenEnd 2 rfl) (sA_14 hS h1 h2) ?_
  refine x_bipush (dA D_X7_tokenEnd 3 rfl) (by decide) (by decide) ?_
  obtain ⟨h3, h⟩ := h
  refine x_icmp_ltP (tgt := 20) (dA D_X7_tokenEnd 4 rfl) (by decide) h3 ⟨by decide, by decide⟩ ⟨fun c => ?_, fun c => ?_⟩
  · have h := h.1 c
    exact h
  · have h := h.2 c
    refine x_aload_n (dA D_X7_tokenEnd 5 rfl) rfl ?_
    refine x_iload_n (dA D_X7_tokenEnd 6 rfl) rfl ?_
    refine x_iald (dA D_X7_tokenEnd 7 rfl) (sA_14 hS h1 h2) ?_
    refine x_bipush (dA D_X7_tokenEnd 8 rfl) (by decide) (by decide) ?_
    refine x_icmp_gtP (tgt := 20) (dA D_X7_tokenEnd 9 rfl) (by decide) h3 ⟨by decide, by decide⟩ ⟨fun c => ?_, fun c => ?_⟩
    · have h := h.1 c
      exact h
    · have h := h.2 c
      refine x_iconst (dA D_X7_tokenEnd 10 rfl) ?_
      refine x_goto (tgt := 21) (dA D_X7_tokenEnd 11 rfl) (by decide) ?_
      refine x_istore_n (xs' := [vA 14, vI x1, vI x2, vI 1, vU, vU, vU, vU, vU]) (dA D_X7_tokenEnd 13 rfl) (by decide) rfl ?_
      refine x_aload_n (dA D_X7_tokenEnd 14 rfl) rfl ?_
      refine x_iload_n (dA D_X7_tokenEnd 15 rfl) rfl ?_
      refine x_iald (dA D_X7_tokenEnd 16 rfl) (sA_14 hS h1 h2) ?_
      refine x_bipush (dA D_X7_tokenEnd 17 rfl) (by decide) (by decide) ?_
      refine x_icmp_ltP (tgt := 42) (dA D_X7_tokenEnd 18 rfl) (by decide) h3 ⟨by decide, by decide⟩ ⟨fun c => ?_, fun c => ?_⟩
      · have h := h.1 c
        exact h
      · have h := h.2 c
        refine x_aload_n (dA D_X7_tokenEnd 19 rfl) rfl ?_
        refine x_iload_n (dA D_X7_tokenEnd 20 rfl) rfl ?_
        refine x_iald (dA D_X7_tokenEnd 21 rfl) (sA_14 hS h1 h2) ?_
        refine x_bipush (dA D_X7_tokenEnd 22 rfl) (by decide) (by decide) ?_
        refine x_icmp_gtP (tgt := 42) (dA D_X7_tokenEnd 23 rfl) (by decide) h3 ⟨by decide, by decide⟩ ⟨fun c => ?_, fun c => ?_⟩
        · have h := h.1 c
          exact h
        · have h := h.2 c
          refine x_iconst (dA D_X7_tokenEnd 24 rfl) ?_
          refine x_goto (tgt := 43) (dA D_X7_tokenEnd 25 rfl) (by decide) ?_
          refine x_istore (xs' := [vA 14, vI x1, vI x2, vI 1, vI 1, vU, vU, vU, vU]) (dA D_X7_tokenEnd 27 rfl) (by decide) rfl ?_
          refine x_iload_n (dA D_X7_tokenEnd 28 rfl) rfl ?_
          refine x_if_eqP (tgt := 54) (dA D_X7_tokenEnd 29 rfl) (by decide) ⟨by decide, by decide⟩ ⟨fun c => ?_, fun c => ?_⟩
          · exact absurd c (by decide)
          · skip
            refine x_bipush (dA D_X7_tokenEnd 30 rfl) (by decide) (by decide) ?_
            refine x_goto (tgt := 56) (dA D_X7_tokenEnd 31 rfl) (by decide) ?_
            refine x_istore (xs' := [vA 14, vI x1, vI x2, vI 1, vI 1, vI 97, vU, vU, vU]) (dA D_X7_tokenEnd 33 rfl) (by decide) rfl ?_
            refine x_iload_n (dA D_X7_tokenEnd 34 rfl) rfl ?_
            refine x_if_eqP (tgt := 67) (dA D_X7_tokenEnd 35 rfl) (by decide) ⟨by decide, by decide⟩ ⟨fun c => ?_, fun c => ?_⟩
            · exact absurd c (by decide)
            · skip
              refine x_bipush (dA D_X7_tokenEnd 36 rfl) (by decide) (by decide) ?_
              refine x_goto (tgt := 69) (dA D_X7_tokenEnd 37 rfl) (by decide) ?_
              refine x_istore (xs' := [vA 14, vI x1, vI x2, vI 1, vI 1, vI 97, vI 122, vU, vU]) (dA D_X7_tokenEnd 39 rfl) (by decide) rfl ?_
              refine x_iload_n (dA D_X7_tokenEnd 40 rfl) rfl ?_
              refine x_iconst (dA D_X7_tokenEnd 41 rfl) ?_
              refine x_iadd (dA D_X7_tokenEnd 42 rfl) ?_
              refine x_nmI (fun v4 ev4 => ?_)
              have h := h v4 ev4
              refine x_istore (xs' := [vA 14, vI x1, vI x2, vI 1, vI 1, vI 97, vI 122, vI v4, vU]) (dA D_X7_tokenEnd 43 rfl) (by decide) rfl ?_
              refine x_iload (dA D_X7_tokenEnd 44 rfl) rfl ?_
              refine x_istore (xs' := [vA 14, vI x1, vI x2, vI 1, vI 1, vI 97, vI 122, vI v4, vI v4]) (dA D_X7_tokenEnd 45 rfl) (by decide) rfl ?_
              exact h
theorem C_X7_tokenEnd {G : GG} {d : Nat} {x1 x2 : Int} {M : MM} {Q : PV → MM → Prop} (h : X G Y_X7_tokenEnd d 0 0 0 [vA 14, vI x1, vI x2, vU, vU, vU, vU, vU, vU] [] M Q) : C G Y_X7_tokenEnd d 0 0 [vA 14, vI x1, vI x2] M Q := X.entry (by decide) (Nat.le_of_ble_eq_true rfl) rfl rfl rfl h
set_option maxRecDepth 100000 in
theorem B_X7_tokenEnd_20 {G : GG} {d : Nat} {k n : Nat} {x1 x2 : Int} {M : MM} {Q : PV → MM → Prop} (hd : 1 ≤ d) (hS : Sh M) (h : 0 ≤ x2 ∧ x2 < 400 ∧ inR (rd M 14 x2) ∧ (((rd M 14 x2) < 48 → X G Y_X7_tokenEnd d k n 42 [vA 14, vI x1, vI x2, vI 0, vU, vU, vU, vU, vU] [] M Q) ∧ (48 ≤ (rd M 14 x2) → ((57 < (rd M 14 x2) → X G Y_X7_tokenEnd d k n 42 [vA 14, vI x1, vI x2, vI 0, vU, vU, vU, vU, vU] [] M Q) ∧ ((rd M 14 x2) ≤ 57 → ∀ v4, v4 = x2 + 1 → X G Y_X7_tokenEnd d k n 80 [vA 14, vI x1, vI x2, vI 0, vI 1, vI 48, vI 57, vI v4, vI v4] [] M Q))))) : X G Y_X7_tokenEnd d k n 20 [vA 14, vI x1, vI x2, vU, vU, vU, vU, vU, vU] [] M Q := by
  have hd1 : 1 ≤ d := by omega
  refine x_iconst (dA D_X7_tokenEnd 12 rfl) ?_
  refine x_istore_n (xs' := [vA 14, vI x1, vI x2, vI 0, vU, vU, vU, vU, vU]) (dA D_X7_tokenEnd 13 rfl) (by decide) rfl ?_
  refine x_aload_n (dA D_X7_tokenEnd 14 rfl) rfl ?_
  refine x_iload_n (dA D_X7_tokenEnd 15 rfl) rfl ?_
  obtain ⟨h1, h⟩ := h
  obtain ⟨h2, h⟩ := h
  refine x_iald (dA D_X7_tokenEnd 16 rfl) (sA_14 hS h1 h2) ?_
  refine x_bipush (dA D_X7_tokenEnd 17 rfl) (by decide) (by decide) ?_
  obtain ⟨h3, h⟩ := h
  refine x_icmp_ltP (tgt := 42) (dA D_X7_tokenEnd 18 rfl) (by decide) h3 ⟨by decide, by decide⟩ ⟨fun c => ?_, fun c => ?_⟩
  · have h := h.1 c
    exact h
  · have h := h.2 c
    refine x_aload_n (dA D_X7_tokenEnd 19 rfl) rfl ?_
    refine x_iload_n (dA D_X7_tokenEnd 20 rfl) rfl ?_
    refine x_iald (dA D_X7_tokenEnd 21 rfl) (sA_14 hS h1 h2) ?_
    refine x_bipush (dA D_X7_tokenEnd 22 rfl) (by decide) (by decide) ?_
    refine x_icmp_gtP (tgt := 42) (dA D_X7_tokenEnd 23 rfl) (by decide) h3 ⟨by decide, by decide⟩ ⟨fun c => ?_, fun c => ?_⟩
    · have h := h.1 c
      exact h
    · have h := h.2 c
      refine x_iconst (dA D_X7_tokenEnd 24 rfl) ?_
      refine x_goto (tgt := 43) (dA D_X7_tokenEnd 25 rfl) (by decide) ?_
      refine x_istore (xs' := [vA 14, vI x1, vI x2, vI 0, vI 1, vU, vU, vU, vU]) (dA D_X7_tokenEnd 27 rfl) (by decide) rfl ?_
      refine x_iload_n (dA D_X7_tokenEnd 28 rfl) rfl ?_
      refine x_if_eqP (tgt := 54) (dA D_X7_tokenEnd 29 rfl) (by decide) ⟨by decide, by decide⟩ ⟨fun c => ?_, fun c => ?_⟩
      · skip
        refine x_bipush (dA D_X7_tokenEnd 32 rfl) (by decide) (by decide) ?_
        refine x_istore (xs' := [vA 14, vI x1, vI x2, vI 0, vI 1, vI 48, vU, vU, vU]) (dA D_X7_tokenEnd 33 rfl) (by decide) rfl ?_
        refine x_iload_n (dA D_X7_tokenEnd 34 rfl) rfl ?_
        refine x_if_eqP (tgt := 67) (dA D_X7_tokenEnd 35 rfl) (by decide) ⟨by decide, by decide⟩ ⟨fun c => ?_, fun c => ?_⟩
        · skip
          refine x_bipush (dA D_X7_tokenEnd 38 rfl) (by decide) (by decide) ?_
          refine x_istore (xs' := [vA 14, vI x1, vI x2, vI 0, vI 1, vI 48, vI 57, vU, vU]) (dA D_X7_tokenEnd 39 rfl) (by decide) rfl ?_
          refine x_iload_n (dA D_X7_tokenEnd 40 rfl) rfl ?_
          refine x_iconst (dA D_X7_tokenEnd 41 rfl) ?_
          refine x_iadd (dA D_X7_tokenEnd 42 rfl) ?_
          refine x_nmI (fun v4 ev4 => ?_)
          have h := h v4 ev4
          refine x_istore (xs' := [vA 14, vI x1, vI x2, vI 0, vI 1, vI 48, vI 57, vI v4, vU]) (dA D_X7_tokenEnd 43 rfl) (by decide) rfl ?_
          refine x_iload (dA D_X7_tokenEnd 44 rfl) rfl ?_
          refine x_istore (xs' := [vA 14, vI x1, vI x2, vI 0, vI 1, vI 48, vI 57, vI v4, vI v4]) (dA D_X7_tokenEnd 45 rfl) (by decide) rfl ?_
          exact h
        · exact absurd (by decide) c
      · exact absurd (by decide) c
set_option maxRecDepth 100000 in
theorem B_X7_tokenEnd_42 {G : GG} {d : Nat} {k n : Nat} {x1 x2 x3 : Int} {M : MM} {Q : PV → MM → Prop} (hd : 1 ≤ d) (hS : Sh M) (h : inR x3 ∧ ∀ v6, v6 = (if x3 = 0 then 48 else 97) → ∀ v11, v11 = (if x3 = 0 then 57 else 122) → ∀ v12, v12 = x2 + 1 → X G Y_X7_tokenEnd d k n 80 [vA 14, vI x1, vI x2, vI x3, vI 0, vI v6, vI v11, vI v12, vI v12] [] M Q) : X G Y_X7_tokenEnd d k n 42 [vA 14, vI x1, vI x2, vI x3, vU, vU, vU, vU, vU] [] M Q := by
  have hd1 : 1 ≤ d := by omega
  refine x_iconst (dA D_X7_tokenEnd 26 rfl) ?_
  refine x_istore (xs' := [vA 14, vI x1, vI x2, vI x3, vI 0, vU, vU, vU, vU]) (dA D_X7_tokenEnd 27 rfl) (by decide) rfl ?_
  refine x_iload_n (dA D_X7_tokenEnd 28 rfl) rfl ?_
  obtain ⟨h2, h⟩ := h
  have hJ : X G Y_X7_tokenEnd d k n 56 [vA 14, vI x1, vI x2, vI x3, vI 0, vU, vU, vU, vU] [vI (if x3 = 0 then 48 else 97)] M Q := by
    refine x_nmI (fun v6 ev6 => ?_)
    have h := h v6 ev6
    refine x_istore (xs' := [vA 14, vI x1, vI x2, vI x3, vI 0, vI v6, vU, vU, vU]) (dA D_X7_tokenEnd 33 rfl) (by decide) rfl ?_
    refine x_iload_n (dA D_X7_tokenEnd 34 rfl) rfl ?_
    have hJ : X G Y_X7_tokenEnd d k n 69 [vA 14, vI x1, vI x2, vI x3, vI 0, vI v6, vU, vU, vU] [vI (if x3 = 0 then 57 else 122)] M Q := by
      refine x_nmI (fun v11 ev11 => ?_)
      have h := h v11 ev11
      refine x_istore (xs' := [vA 14, vI x1, vI x2, vI x3, vI 0, vI v6, vI v11, vU, vU]) (dA D_X7_tokenEnd 39 rfl) (by decide) rfl ?_
      refine x_iload_n (dA D_X7_tokenEnd 40 rfl) rfl ?_
      refine x_iconst (dA D_X7_tokenEnd 41 rfl) ?_
      refine x_iadd (dA D_X7_tokenEnd 42 rfl) ?_
      refine x_nmI (fun v12 ev12 => ?_)
      have h := h v12 ev12
      refine x_istore (xs' := [vA 14, vI x1, vI x2, vI x3, vI 0, vI v6, vI v11, vI v12, vU]) (dA D_X7_tokenEnd 43 rfl) (by decide) rfl ?_
      refine x_iload (dA D_X7_tokenEnd 44 rfl) rfl ?_
      refine x_istore (xs' := [vA 14, vI x1, vI x2, vI x3, vI 0, vI v6, vI v11, vI v12, vI v12]) (dA D_X7_tokenEnd 45 rfl) (by decide) rfl ?_
      exact h
    refine x_if_eqP (tgt := 67) (dA D_X7_tokenEnd 35 rfl) (by decide) h2 ⟨fun c7 => ?_, fun c7 => ?_⟩
    · refine x_bipush (dA D_X7_tokenEnd 38 rfl) (by decide) (by decide) ?_
      rw [if_pos c7] at hJ
      exact hJ
    · refine x_bipush (dA D_X7_tokenEnd 36 rfl) (by decide) (by decide) ?_
      refine x_goto (tgt := 69) (dA D_X7_tokenEnd 37 rfl) (by decide) ?_
      rw [if_neg (by first | omega | grind)] at hJ
      exact hJ
  refine x_if_eqP (tgt := 54) (dA D_X7_tokenEnd 29 rfl) (by decide) h2 ⟨fun c1 => ?_, fun c1 => ?_⟩
  · refine x_bipush (dA D_X7_tokenEnd 32 rfl) (by decide) (by decide) ?_
    rw [if_pos c1] at hJ
    exact hJ
  · refine x_bipush (dA D_X7_tokenEnd 30 rfl) (by decide) (by decide) ?_
    refine x_goto (tgt := 56) (dA D_X7_tokenEnd 31 rfl) (by decide) ?_
    rw [if_neg (by first | omega | grind)] at hJ
    exact hJ
set_option maxRecDepth 100000 in
theorem B_X7_tokenEnd_80 {G : GG} {d : Nat} {k n : Nat} {x1 x2 x3 x4 x5 x6 x7 x8 : Int} {M : MM} {Q : PV → MM → Prop} (hd : 1 ≤ d) (hS : Sh M) (h : inR x8 ∧ inR x1 ∧ inR x3 ∧ inR x4 ∧ ((((x1 ≤ x8) ∨ ((x3 = 0) ∧ (x4 = 0))) → Q (vI x7) M) ∧ (¬ ((x1 ≤ x8) ∨ ((x3 = 0) ∧ (x4 = 0))) → X G Y_X7_tokenEnd d k n 95 [vA 14, vI x1, vI x2, vI x3, vI x4, vI x5, vI x6, vI x7, vI x8] [] M Q))) : X G Y_X7_tokenEnd d k n 80 [vA 14, vI x1, vI x2, vI x3, vI x4, vI x5, vI x6, vI x7, vI x8] [] M Q := by
  have hd1 : 1 ≤ d := by omega
  refine x_iload (dA D_X7_tokenEnd 46 rfl) rfl ?_
  refine x_iload_n (dA D_X7_tokenEnd 47 rfl) rfl ?_
  obtain ⟨h2, h⟩ := h
  obtain ⟨h3, h⟩ := h
  obtain ⟨h6, h⟩ := h
  obtain ⟨h9, h⟩ := h
  have hA : ((x1 ≤ x8) ∨ ((x3 = 0) ∧ (x4 = 0))) → X G Y_X7_tokenEnd d k n 125 [vA 14, vI x1, vI x2, vI x3, vI x4, vI x5, vI x6, vI x7, vI x8] [] M Q := by
    intro c10
    have h := h.1 c10
    refine x_iload (dA D_X7_tokenEnd 69 rfl) rfl ?_
    exact x_ireturn (dA D_X7_tokenEnd 70 rfl) rfl h
  have hB : ¬ ((x1 ≤ x8) ∨ ((x3 = 0) ∧ (x4 = 0))) → X G Y_X7_tokenEnd d k n 95 [vA 14, vI x1, vI x2, vI x3, vI x4, vI x5, vI x6, vI x7, vI x8] [] M Q := by
    intro c10
    have h := h.2 c10
    exact h
  refine x_icmp_geP (tgt := 125) (dA D_X7_tokenEnd 48 rfl) (by decide) h2 h3 ⟨fun c1 => ?_, fun c1 => ?_⟩
  · exact hA (by first | omega | grind)
  · refine x_iload_n (dA D_X7_tokenEnd 49 rfl) rfl ?_
    refine x_if_neP (tgt := 95) (dA D_X7_tokenEnd 50 rfl) (by decide) h6 ⟨fun c5 => ?_, fun c5 => ?_⟩
    · exact hB (by first | omega | grind)
    · refine x_iload (dA D_X7_tokenEnd 51 rfl) rfl ?_
      refine x_if_eqP (tgt := 125) (dA D_X7_tokenEnd 52 rfl) (by decide) h9 ⟨fun c8 => ?_, fun c8 => ?_⟩
      · exact hA (by first | omega | grind)
      · exact hB (by first | omega | grind)
set_option maxRecDepth 100000 in
theorem B_X7_tokenEnd_95 {G : GG} {d : Nat} {k n : Nat} {x1 x2 x3 x4 x5 x6 x7 x8 : Int} {M : MM} {Q : PV → MM → Prop} (hd : 1 ≤ d) (hS : Sh M) (h : 0 ≤ x8 ∧ x8 < 400 ∧ inR (rd M 14 x8) ∧ inR x5 ∧ (((rd M 14 x8) < x5 → Q (vI x7) M) ∧ (x5 ≤ (rd M 14 x8) → inR x6 ∧ ((x6 < (rd M 14 x8) → Q (vI x7) M) ∧ ((rd M 14 x8) ≤ x6 → ∀ v6, v6 = x8 + 1 → X G Y_X7_tokenEnd d k n 80 [vA 14, vI x1, vI x2, vI x3, vI x4, vI x5, vI x6, vI v6, vI (x8 + 1)] [] M Q))))) : X G Y_X7_tokenEnd d k n 95 [vA 14, vI x1, vI x2, vI x3, vI x4, vI x5, vI x6, vI x7, vI x8] [] M Q := by
  have hd1 : 1 ≤ d := by omega
  refine x_aload_n (dA D_X7_tokenEnd 53 rfl) rfl ?_
  refine x_iload (dA D_X7_tokenEnd 54 rfl) rfl ?_
  obtain ⟨h1, h⟩ := h
  obtain ⟨h2, h⟩ := h
  refine x_iald (dA D_X7_tokenEnd 55 rfl) (sA_14 hS h1 h2) ?_
  refine x_iload (dA D_X7_tokenEnd 56 rfl) rfl ?_
  obtain ⟨h3, h⟩ := h
  obtain ⟨h4, h⟩ := h
  refine x_icmp_ltP (tgt := 125) (dA D_X7_tokenEnd 57 rfl) (by decide) h3 h4 ⟨fun c => ?_, fun c => ?_⟩
  · have h := h.1 c
    refine x_iload (dA D_X7_tokenEnd 69 rfl) rfl ?_
    exact x_ireturn (dA D_X7_tokenEnd 70 rfl) rfl h
  · have h := h.2 c
    refine x_aload_n (dA D_X7_tokenEnd 58 rfl) rfl ?_
    refine x_iload (dA D_X7_tokenEnd 59 rfl) rfl ?_
    refine x_iald (dA D_X7_tokenEnd 60 rfl) (sA_14 hS h1 h2) ?_
    refine x_iload (dA D_X7_tokenEnd 61 rfl) rfl ?_
    obtain ⟨h5, h⟩ := h
    refine x_icmp_gtP (tgt := 125) (dA D_X7_tokenEnd 62 rfl) (by decide) h3 h5 ⟨fun c => ?_, fun c => ?_⟩
    · have h := h.1 c
      refine x_iload (dA D_X7_tokenEnd 69 rfl) rfl ?_
      exact x_ireturn (dA D_X7_tokenEnd 70 rfl) rfl h
    · have h := h.2 c
      refine x_iload (dA D_X7_tokenEnd 63 rfl) rfl ?_
      refine x_iconst (dA D_X7_tokenEnd 64 rfl) ?_
      refine x_iadd (dA D_X7_tokenEnd 65 rfl) ?_
      refine x_nmI (fun v6 ev6 => ?_)
      have h := h v6 ev6
      refine x_istore (xs' := [vA 14, vI x1, vI x2, vI x3, vI x4, vI x5, vI x6, vI v6, vI x8]) (dA D_X7_tokenEnd 66 rfl) (by decide) rfl ?_
      refine x_iinc (xs' := [vA 14, vI x1, vI x2, vI x3, vI x4, vI x5, vI x6, vI v6, vI (x8 + 1)]) (dA D_X7_tokenEnd 67 rfl) rfl (by decide) rfl ?_
      refine x_goto (tgt := 80) (dA D_X7_tokenEnd 68 rfl) (by decide) ?_
      exact h
set_option maxRecDepth 100000 in
theorem B_X7_wordOf_0 {G : GG} {d : Nat} {k n : Nat} {x1 x2 : Int} {M : MM} {Q : PV → MM → Prop} (hd : 1 ≤ d) (hS : Sh M) (h : X G Y_X7_wordOf d k n 13 [vA 14, vI x1, vI x2, vI 300, vI x1, vI 1, vI 0, vU] [] M Q) : X G Y_X7_wordOf d k n 0 [vA 14, vI x1, vI x2, vU, vU, vU, vU, vU] [] M Q := by
  have hd1 : 1 ≤ d := by omega
  refine x_sipush (dA D_X7_wordOf 0 rfl) (by decide) (by decide) ?_
  refine x_istore_n (xs' := [vA 14, vI x1, vI x2, vI 300, vU, vU, vU, vU]) (dA D_X7_wordOf 1 rfl) (by decide) rfl ?_
  refine x_iload_n (dA D_X7_wordOf 2 rfl) rfl ?_
  refine x_istore (xs' := [vA 14, vI x1, vI x2, vI 300, vI x1, vU, vU, vU]) (dA D_X7_wordOf 3 rfl) (by decide) rfl ?_
  refine x_iconst (dA D_X7_wordOf 4 rfl) ?_
  refine x_istore (xs' := [vA 14, vI x1, vI x2, vI 300, vI x1, vI 1, vU, vU]) (dA D_X7_wordOf 5 rfl) (by decide) rfl ?_
  refine x_iconst (dA D_X7_wordOf 6 rfl) ?_
  refine x_istore (xs' := [vA 14, vI x1, vI x2, vI 300, vI x1, vI 1, vI 0, vU]) (dA D_X7_wordOf 7 rfl) (by decide) rfl ?_
  exact h
theorem C_X7_wordOf {G : GG} {d : Nat} {x1 x2 : Int} {M : MM} {Q : PV → MM → Prop} (h : X G Y_X7_wordOf d 0 0 0 [vA 14, vI x1, vI x2, vU, vU, vU, vU, vU] [] M Q) : C G Y_X7_wordOf d 0 0 [vA 14, vI x1, vI x2] M Q := X.entry (by decide) (Nat.le_of_ble_eq_true rfl) rfl rfl rfl h
set_option maxRecDepth 100000 in
theorem B_X7_wordOf_13 {G : GG} {d : Nat} {k n : Nat} {x1 x2 x3 x4 x5 x6 : Int} {M : MM} {Q : PV → MM → Prop} (hd : 4 ≤ d) (hS : Sh M) (h : inR x6 ∧ ((68 ≤ x6 → Q (vI 257) M) ∧ (x6 < 68 → ((0 ≤ x6 ∧ x6 < 68)) ∧ ∀ v3, v3 = wdF x6 → inR v3 ∧ ((v3 = 32 → inR x5 ∧ inR x4 ∧ inR x2 ∧ ((((x5 = 0) ∨ (x4 ≠ x2)) → X G Y_X7_wordOf d k n 13 [vA 14, vI x1, vI x2, vI (x3 + 1), vI x1, vI 1, vI (x6 + 1), vU] [] M Q) ∧ (¬ ((x5 = 0) ∨ (x4 ≠ x2)) → Q (vI x3) M))) ∧ (v3 ≠ 32 → inR x5 ∧ inR x4 ∧ inR x2 ∧ ((((x5 = 0) ∨ (x2 ≤ x4)) → X G Y_X7_wordOf d k n 13 [vA 14, vI x1, vI x2, vI x3, vI (x4 + 1), vI 0, vI (x6 + 1), vU] [] M Q) ∧ (¬ ((x5 = 0) ∨ (x2 ≤ x4)) → 0 ≤ x4 ∧ x4 < 400 ∧ inR (rd M 14 x4) ∧ ∀ v34, v34 = (if (rd M 14 x4) = v3 then 1 else 0) → X G Y_X7_wordOf d k n 13 [vA 14, vI x1, vI x2, vI x3, vI (x4 + 1), vI v34, vI (x6 + 1), vU] [] M Q))))))) : X G Y_X7_wordOf d k n 13 [vA 14, vI x1, vI x2, vI x3, vI x4, vI x5, vI x6, vU] [] M Q := by
  have hd1 : 1 ≤ d := by omega
  refine x_iload (dA D_X7_wordOf 8 rfl) rfl ?_
  refine x_ldcS (dA D_X7_wordOf 9 rfl) rfl ?_
  refine x_wlen [vI x6] (dA D_X7_wordOf 10 rfl) cw_RX7_66 (Nat.le_of_ble_eq_true rfl) (by omega) ?_
  obtain ⟨h1, h⟩ := h
  refine x_icmp_geP (tgt := 100) (dA D_X7_wordOf 11 rfl) (by decide) h1 ⟨by decide, by decide⟩ ⟨fun c => ?_, fun c => ?_⟩
  · have h := h.1 c
    refine x_sipush (dA D_X7_wordOf 49 rfl) (by decide) (by decide) ?_
    exact x_ireturn (dA D_X7_wordOf 50 rfl) rfl h
  · have h := h.2 c
    refine x_ldcS (dA D_X7_wordOf 12 rfl) rfl ?_
    refine x_iload (dA D_X7_wordOf 13 rfl) rfl ?_
    obtain ⟨h2, h⟩ := h
    refine x_wch [] (dA D_X7_wordOf 14 rfl) cw_RX7_72 (Nat.le_of_ble_eq_true rfl) (by omega) h2 ?_
    refine x_nmI (fun v3 ev3 => ?_)
    have h := h v3 ev3
    refine x_istore (xs' := [vA 14, vI x1, vI x2, vI x3, vI x4, vI x5, vI x6, vI v3]) (dA D_X7_wordOf 15 rfl) (by decide) rfl ?_
    refine x_iload (dA D_X7_wordOf 16 rfl) rfl ?_
    refine x_bipush (dA D_X7_wordOf 17 rfl) (by decide) (by decide) ?_
    obtain ⟨h4, h⟩ := h
    refine x_icmp_eqP (tgt := 72) (dA D_X7_wordOf 18 rfl) (by decide) h4 ⟨by decide, by decide⟩ ⟨fun c => ?_, fun c => ?_⟩
    · have h := h.1 c
      refine x_iload (dA D_X7_wordOf 35 rfl) rfl ?_
      obtain ⟨h6, h⟩ := h
      obtain ⟨h10, h⟩ := h
      obtain ⟨h11, h⟩ := h
      have hA : ((x5 = 0) ∨ (x4 ≠ x2)) → X G Y_X7_wordOf d k n 85 [vA 14, vI x1, vI x2, vI x3, vI x4, vI x5, vI x6, vI v3] [] M Q := by
        intro c14
        have h := h.1 c14
        refine x_iinc (xs' := [vA 14, vI x1, vI x2, vI (x3 + 1), vI x4, vI x5, vI x6, vI v3]) (dA D_X7_wordOf 42 rfl) rfl (by decide) rfl ?_
        refine x_iload_n (dA D_X7_wordOf 43 rfl) rfl ?_
        refine x_istore (xs' := [vA 14, vI x1, vI x2, vI (x3 + 1), vI x1, vI x5, vI x6, vI v3]) (dA D_X7_wordOf 44 rfl) (by decide) rfl ?_
        refine x_iconst (dA D_X7_wordOf 45 rfl) ?_
        refine x_istore (xs' := [vA 14, vI x1, vI x2, vI (x3 + 1), vI x1, vI 1, vI x6, vI v3]) (dA D_X7_wordOf 46 rfl) (by decide) rfl ?_
        refine x_iinc (xs' := [vA 14, vI x1, vI x2, vI (x3 + 1), vI x1, vI 1, vI (x6 + 1), vI v3]) (dA D_X7_wordOf 47 rfl) rfl (by decide) rfl ?_
        refine x_goto (tgt := 13) (dA D_X7_wordOf 48 rfl) (by decide) ?_
        refine X.weak (xs' := [vA 14, vI x1, vI x2, vI (x3 + 1), vI x1, vI 1, vI (x6 + 1), vU]) ⟨Or.inl rfl, Or.inl rfl, Or.inl rfl, Or.inl rfl, Or.inl rfl, Or.inl rfl, Or.inl rfl, Or.inr rfl, trivial⟩ ?_
        exact h
      have hB : ¬ ((x5 = 0) ∨ (x4 ≠ x2)) → X G Y_X7_wordOf d k n 83 [vA 14, vI x1, vI x2, vI x3, vI x4, vI x5, vI x6, vI v3] [] M Q := by
        intro c14
        have h := h.2 c14
        refine x_iload_n (dA D_X7_wordOf 40 rfl) rfl ?_
        exact x_ireturn (dA D_X7_wordOf 41 rfl) rfl h
      refine x_if_eqP (tgt := 85) (dA D_X7_wordOf 36 rfl) (by decide) h6 ⟨fun c5 => ?_, fun c5 => ?_⟩
      · exact hA (by first | omega | grind)
      · refine x_iload (dA D_X7_wordOf 37 rfl) rfl ?_
        refine x_iload_n (dA D_X7_wordOf 38 rfl) rfl ?_
        refine x_icmp_neP (tgt := 85) (dA D_X7_wordOf 39 rfl) (by decide) h10 h11 ⟨fun c9 => ?_, fun c9 => ?_⟩
        · exact hA (by first | omega | grind)
        · exact hB (by first | omega | grind)
    · have h := h.2 c
      refine x_iload (dA D_X7_wordOf 19 rfl) rfl ?_
      obtain ⟨h16, h⟩ := h
      obtain ⟨h21, h⟩ := h
      obtain ⟨h22, h⟩ := h
      have hA : ((x5 = 0) ∨ (x2 ≤ x4)) → X G Y_X7_wordOf d k n 64 [vA 14, vI x1, vI x2, vI x3, vI x4, vI x5, vI x6, vI v3] [vI 0] M Q := by
        intro c35
        have h := h.1 c35
        refine x_istore (xs' := [vA 14, vI x1, vI x2, vI x3, vI x4, vI 0, vI x6, vI v3]) (dA D_X7_wordOf 32 rfl) (by decide) rfl ?_
        refine x_iinc (xs' := [vA 14, vI x1, vI x2, vI x3, vI (x4 + 1), vI 0, vI x6, vI v3]) (dA D_X7_wordOf 33 rfl) rfl (by decide) rfl ?_
        refine x_goto (tgt := 94) (dA D_X7_wordOf 34 rfl) (by decide) ?_
        refine x_iinc (xs' := [vA 14, vI x1, vI x2, vI x3, vI (x4 + 1), vI 0, vI (x6 + 1), vI v3]) (dA D_X7_wordOf 47 rfl) rfl (by decide) rfl ?_
        refine x_goto (tgt := 13) (dA D_X7_wordOf 48 rfl) (by decide) ?_
        refine X.weak (xs' := [vA 14, vI x1, vI x2, vI x3, vI (x4 + 1), vI 0, vI (x6 + 1), vU]) ⟨Or.inl rfl, Or.inl rfl, Or.inl rfl, Or.inl rfl, Or.inl rfl, Or.inl rfl, Or.inl rfl, Or.inr rfl, trivial⟩ ?_
        exact h
      have hB : ¬ ((x5 = 0) ∨ (x2 ≤ x4)) → X G Y_X7_wordOf d k n 50 [vA 14, vI x1, vI x2, vI x3, vI x4, vI x5, vI x6, vI v3] [] M Q := by
        intro c35
        have h := h.2 c35
        refine x_aload_n (dA D_X7_wordOf 24 rfl) rfl ?_
        refine x_iload (dA D_X7_wordOf 25 rfl) rfl ?_
        obtain ⟨h27, h⟩ := h
        obtain ⟨h28, h⟩ := h
        refine x_iald (dA D_X7_wordOf 26 rfl) (sA_14 hS h27 h28) ?_
        refine x_iload (dA D_X7_wordOf 27 rfl) rfl ?_
        obtain ⟨h30, h⟩ := h
        have hJ : X G Y_X7_wordOf d k n 64 [vA 14, vI x1, vI x2, vI x3, vI x4, vI x5, vI x6, vI v3] [vI (if (rd M 14 x4) = v3 then 1 else 0)] M Q := by
          refine x_nmI (fun v34 ev34 => ?_)
          have h := h v34 ev34
          refine x_istore (xs' := [vA 14, vI x1, vI x2, vI x3, vI x4, vI v34, vI x6, vI v3]) (dA D_X7_wordOf 32 rfl) (by decide) rfl ?_
          refine x_iinc (xs' := [vA 14, vI x1, vI x2, vI x3, vI (x4 + 1), vI v34, vI x6, vI v3]) (dA D_X7_wordOf 33 rfl) rfl (by decide) rfl ?_
          refine x_goto (tgt := 94) (dA D_X7_wordOf 34 rfl) (by decide) ?_
          refine x_iinc (xs' := [vA 14, vI x1, vI x2, vI x3, vI (x4 + 1), vI v34, vI (x6 + 1), vI v3]) (dA D_X7_wordOf 47 rfl) rfl (by decide) rfl ?_
          refine x_goto (tgt := 13) (dA D_X7_wordOf 48 rfl) (by decide) ?_
          refine X.weak (xs' := [vA 14, vI x1, vI x2, vI x3, vI (x4 + 1), vI v34, vI (x6 + 1), vU]) ⟨Or.inl rfl, Or.inl rfl, Or.inl rfl, Or.inl rfl, Or.inl rfl, Or.inl rfl, Or.inl rfl, Or.inr rfl, trivial⟩ ?_
          exact h
        refine x_icmp_neP (tgt := 63) (dA D_X7_wordOf 28 rfl) (by decide) h30 h4 ⟨fun c29 => ?_, fun c29 => ?_⟩
        · refine x_iconst (dA D_X7_wordOf 31 rfl) ?_
          have e0 : (if (rd M 14 x4) = v3 then (1 : Int) else 0) = 0 := if_neg (by first | omega | grind)
          rw [e0] at hJ
          exact hJ
        · refine x_iconst (dA D_X7_wordOf 29 rfl) ?_
          refine x_goto (tgt := 64) (dA D_X7_wordOf 30 rfl) (by decide) ?_
          have e0 : (if (rd M 14 x4) = v3 then (1 : Int) else 0) = 1 := if_pos (by first | omega | grind)
          rw [e0] at hJ
          exact hJ
      refine x_if_eqP (tgt := 63) (dA D_X7_wordOf 20 rfl) (by decide) h16 ⟨fun c15 => ?_, fun c15 => ?_⟩
      · refine x_iconst (dA D_X7_wordOf 31 rfl) ?_
        exact hA (by first | omega | grind)
      · refine x_iload (dA D_X7_wordOf 21 rfl) rfl ?_
        refine x_iload_n (dA D_X7_wordOf 22 rfl) rfl ?_
        refine x_icmp_geP (tgt := 63) (dA D_X7_wordOf 23 rfl) (by decide) h21 h22 ⟨fun c20 => ?_, fun c20 => ?_⟩
        · refine x_iconst (dA D_X7_wordOf 31 rfl) ?_
          exact hA (by first | omega | grind)
        · exact hB (by first | omega | grind)
set_option maxRecDepth 100000 in
theorem B_X7_kindOf_0 {G : GG} {d : Nat} {k n : Nat} {x1 x2 : Int} {M : MM} {Q : PV → MM → Prop} (hd : 2 ≤ d) (hS : Sh M) (h : 0 ≤ x1 ∧ x1 < 400 ∧ inR (rd M 14 x1) ∧ (((rd M 14 x1) < 97 → X G Y_X7_kindOf d k n 23 [vA 14, vI x1, vI x2, vU, vU] [] M Q) ∧ (97 ≤ (rd M 14 x1) → ((122 < (rd M 14 x1) → X G Y_X7_kindOf d k n 23 [vA 14, vI x1, vI x2, vU, vU] [] M Q) ∧ ((rd M 14 x1) ≤ 122 → C G Y_X7_wordOf (d - 1) 0 0 [vA 14, vI x1, vI x2] M (rI (fun r5 M4 => Sh M4 ∧ Q (vI r5) M4))))))) : X G Y_X7_kindOf d k n 0 [vA 14, vI x1, vI x2, vU, vU] [] M Q := by
  have hd1 : 1 ≤ d := by omega
  refine x_aload_n (dA D_X7_kindOf 0 rfl) rfl ?_
  refine x_iload_n (dA D_X7_kindOf 1 rfl) rfl ?_
  obtain ⟨h1, h⟩ := h
  obtain ⟨h2, h⟩ := h
  refine x_iald (dA D_X7_kindOf 2 rfl) (sA_14 hS h1 h2) ?_
  refine x_bipush (dA D_X7_kindOf 3 rfl) (by decide) (by decide) ?_
  obtain ⟨h3, h⟩ := h
  refine x_icmp_ltP (tgt := 23) (dA D_X7_kindOf 4 rfl) (by decide) h3 ⟨by decide, by decide⟩ ⟨fun c => ?_, fun c => ?_⟩
  · have h := h.1 c
    exact h
  · have h := h.2 c
    refine x_aload_n (dA D_X7_kindOf 5 rfl) rfl ?_
    refine x_iload_n (dA D_X7_kindOf 6 rfl) rfl ?_
    refine x_iald (dA D_X7_kindOf 7 rfl) (sA_14 hS h1 h2) ?_
    refine x_bipush (dA D_X7_kindOf 8 rfl) (by decide) (by decide) ?_
    refine x_icmp_gtP (tgt := 23) (dA D_X7_kindOf 9 rfl) (by decide) h3 ⟨by decide, by decide⟩ ⟨fun c => ?_, fun c => ?_⟩
    · have h := h.1 c
      exact h
    · have h := h.2 c
      refine x_aload_n (dA D_X7_kindOf 10 rfl) rfl ?_
      refine x_iload_n (dA D_X7_kindOf 11 rfl) rfl ?_
      refine x_iload_n (dA D_X7_kindOf 12 rfl) rfl ?_
      refine x_callS [vA 14, vI x1, vI x2] [] (dA D_X7_kindOf 13 rfl) cw_RX7_55 rfl rfl (Nat.le_of_ble_eq_true rfl) hd1 (zk k) (zk n) h (kI (fun r5 M4 h => ?_))
      obtain ⟨hM4, h⟩ := h
      exact x_ireturn (dA D_X7_kindOf 14 rfl) rfl h
theorem C_X7_kindOf {G : GG} {d : Nat} {x1 x2 : Int} {M : MM} {Q : PV → MM → Prop} (h : X G Y_X7_kindOf d 0 0 0 [vA 14, vI x1, vI x2, vU, vU] [] M Q) : C G Y_X7_kindOf d 0 0 [vA 14, vI x1, vI x2] M Q := X.entry (by decide) (Nat.le_of_ble_eq_true rfl) rfl rfl rfl h
set_option maxRecDepth 100000 in
theorem B_X7_kindOf_23 {G : GG} {d : Nat} {k n : Nat} {x1 x2 : Int} {M : MM} {Q : PV → MM → Prop} (hd : 1 ≤ d) (hS : Sh M) (h : 0 ≤ x1 ∧ x1 < 400 ∧ inR (rd M 14 x1) ∧ (((rd M 14 x1) < 48 → Q (vI (rd M 14 x1)) M) ∧ (48 ≤ (rd M 14 x1) → (((rd M 14 x1) ≤ 57 → X G Y_X7_kindOf d k n 48 [vA 14, vI x1, vI x2, vI 0, vI x1] [] M Q) ∧ (57 < (rd M 14 x1) → Q (vI (rd M 14 x1)) M))))) : X G Y_X7_kindOf d k n 23 [vA 14, vI x1, vI x2, vU, vU] [] M Q := by
  have hd1 : 1 ≤ d := by omega
  refine x_aload_n (dA D_X7_kindOf 15 rfl) rfl ?_
  refine x_iload_n (dA D_X7_kindOf 16 rfl) rfl ?_
  obtain ⟨h1, h⟩ := h
  obtain ⟨h2, h⟩ := h
  refine x_iald (dA D_X7_kindOf 17 rfl) (sA_14 hS h1 h2) ?_
  refine x_bipush (dA D_X7_kindOf 18 rfl) (by decide) (by decide) ?_
  obtain ⟨h3, h⟩ := h
  refine x_icmp_ltP (tgt := 39) (dA D_X7_kindOf 19 rfl) (by decide) h3 ⟨by decide, by decide⟩ ⟨fun c => ?_, fun c => ?_⟩
  · have h := h.1 c
    refine x_aload_n (dA D_X7_kindOf 25 rfl) rfl ?_
    refine x_iload_n (dA D_X7_kindOf 26 rfl) rfl ?_
    refine x_iald (dA D_X7_kindOf 27 rfl) (sA_14 hS h1 h2) ?_
    exact x_ireturn (dA D_X7_kindOf 28 rfl) rfl h
  · have h := h.2 c
    refine x_aload_n (dA D_X7_kindOf 20 rfl) rfl ?_
    refine x_iload_n (dA D_X7_kindOf 21 rfl) rfl ?_
    refine x_iald (dA D_X7_kindOf 22 rfl) (sA_14 hS h1 h2) ?_
    refine x_bipush (dA D_X7_kindOf 23 rfl) (by decide) (by decide) ?_
    refine x_icmp_leP (tgt := 43) (dA D_X7_kindOf 24 rfl) (by decide) h3 ⟨by decide, by decide⟩ ⟨fun c => ?_, fun c => ?_⟩
    · have h := h.1 c
      refine x_iconst (dA D_X7_kindOf 29 rfl) ?_
      refine x_istore_n (xs' := [vA 14, vI x1, vI x2, vI 0, vU]) (dA D_X7_kindOf 30 rfl) (by decide) rfl ?_
      refine x_iload_n (dA D_X7_kindOf 31 rfl) rfl ?_
      refine x_istore (xs' := [vA 14, vI x1, vI x2, vI 0, vI x1]) (dA D_X7_kindOf 32 rfl) (by decide) rfl ?_
      exact h
    · have h := h.2 c
      refine x_aload_n (dA D_X7_kindOf 25 rfl) rfl ?_
      refine x_iload_n (dA D_X7_kindOf 26 rfl) rfl ?_
      refine x_iald (dA D_X7_kindOf 27 rfl) (sA_14 hS h1 h2) ?_
      exact x_ireturn (dA D_X7_kindOf 28 rfl) rfl h
set_option maxRecDepth 100000 in
theorem B_X7_kindOf_48 {G : GG} {d : Nat} {k n : Nat} {x1 x2 x3 x4 : Int} {M : MM} {Q : PV → MM → Prop} (hd : 1 ≤ d) (hS : Sh M) (h : inR x4 ∧ inR x2 ∧ ((x2 ≤ x4 → Q (vI (1000 + x3)) M) ∧ (x4 < x2 → 0 ≤ x4 ∧ x4 < 400 ∧ inR (((x3 * 10) + (rd M 14 x4)) - 48) ∧ ∀ v6, v6 = (if 1001 < (((x3 * 10) + (rd M 14 x4)) - 48) then 1001 else (((x3 * 10) + (rd M 14 x4)) - 48)) → X G Y_X7_kindOf d k n 48 [vA 14, vI x1, vI x2, vI v6, vI (x4 + 1)] [] M Q))) : X G Y_X7_kindOf d k n 48 [vA 14, vI x1, vI x2, vI x3, vI x4] [] M Q := by
  have hd1 : 1 ≤ d := by omega
  refine x_iload (dA D_X7_kindOf 33 rfl) rfl ?_
  refine x_iload_n (dA D_X7_kindOf 34 rfl) rfl ?_
  obtain ⟨h1, h⟩ := h
  obtain ⟨h2, h⟩ := h
  refine x_icmp_geP (tgt := 79) (dA D_X7_kindOf 35 rfl) (by decide) h1 h2 ⟨fun c => ?_, fun c => ?_⟩
  · have h := h.1 c
    refine x_sipush (dA D_X7_kindOf 50 rfl) (by decide) (by decide) ?_
    refine x_iload_n (dA D_X7_kindOf 51 rfl) rfl ?_
    refine x_iadd (dA D_X7_kindOf 52 rfl) ?_
    exact x_ireturn (dA D_X7_kindOf 53 rfl) rfl h
  · have h := h.2 c
    refine x_iload_n (dA D_X7_kindOf 36 rfl) rfl ?_
    refine x_bipush (dA D_X7_kindOf 37 rfl) (by decide) (by decide) ?_
    refine x_imul (dA D_X7_kindOf 38 rfl) ?_
    refine x_aload_n (dA D_X7_kindOf 39 rfl) rfl ?_
    refine x_iload (dA D_X7_kindOf 40 rfl) rfl ?_
    obtain ⟨h3, h⟩ := h
    obtain ⟨h4, h⟩ := h
    refine x_iald (dA D_X7_kindOf 41 rfl) (sA_14 hS h3 h4) ?_
    refine x_iadd (dA D_X7_kindOf 42 rfl) ?_
    refine x_bipush (dA D_X7_kindOf 43 rfl) (by decide) (by decide) ?_
    refine x_isub (dA D_X7_kindOf 44 rfl) ?_
    refine x_sipush (dA D_X7_kindOf 45 rfl) (by decide) (by decide) ?_
    obtain ⟨h5, h⟩ := h
    refine x_mminI [] (dA D_X7_kindOf 46 rfl) ml_RX7_58 (Nat.le_of_ble_eq_true rfl) hd1 h5 ⟨by decide, by decide⟩ ?_
    refine x_nmI (fun v6 ev6 => ?_)
    have h := h v6 ev6
    refine x_istore_n (xs' := [vA 14, vI x1, vI x2, vI v6, vI x4]) (dA D_X7_kindOf 47 rfl) (by decide) rfl ?_
    refine x_iinc (xs' := [vA 14, vI x1, vI x2, vI v6, vI (x4 + 1)]) (dA D_X7_kindOf 48 rfl) rfl (by decide) rfl ?_
    refine x_goto (tgt := 48) (dA D_X7_kindOf 49 rfl) (by decide) ?_
    exact h
set_option maxRecDepth 100000 in
theorem B_X7_split_0 {G : GG} {d : Nat} {k n : Nat} {x2 : Int} {M : MM} {Q : PV → MM → Prop} (hd : 1 ≤ d) (hS : Sh M) (h : X G Y_X7_split d k n 8 [vA 16, vA 14, vI x2, vI 0, vI 0, vI 0] [] M Q) : X G Y_X7_split d k n 0 [vA 16, vA 14, vI x2, vU, vU, vU] [] M Q := by
  have hd1 : 1 ≤ d := by omega
  refine x_iconst (dA D_X7_split 0 rfl) ?_
  refine x_istore_n (xs' := [vA 16, vA 14, vI x2, vI 0, vU, vU]) (dA D_X7_split 1 rfl) (by decide) rfl ?_
  refine x_iconst (dA D_X7_split 2 rfl) ?_
  refine x_istore (xs' := [vA 16, vA 14, vI x2, vI 0, vI 0, vU]) (dA D_X7_split 3 rfl) (by decide) rfl ?_
  refine x_iconst (dA D_X7_split 4 rfl) ?_
  refine x_istore (xs' := [vA 16, vA 14, vI x2, vI 0, vI 0, vI 0]) (dA D_X7_split 5 rfl) (by decide) rfl ?_
  exact h
theorem C_X7_split {G : GG} {d : Nat} {x2 : Int} {M : MM} {Q : PV → MM → Prop} (h : X G Y_X7_split d 0 0 0 [vA 16, vA 14, vI x2, vU, vU, vU] [] M Q) : C G Y_X7_split d 0 0 [vA 16, vA 14, vI x2] M Q := X.entry (by decide) (Nat.le_of_ble_eq_true rfl) rfl rfl rfl h
set_option maxRecDepth 100000 in
theorem B_X7_split_8 {G : GG} {d : Nat} {k n : Nat} {x2 x3 x4 x5 : Int} {M : MM} {Q : PV → MM → Prop} (hd : 2 ≤ d) (hS : Sh M) (h : inR x5 ∧ inR x2 ∧ ((x2 ≤ x5 → 0 ≤ x3 ∧ x3 < 401 ∧ ∀ M5, M5 = wr M 17 x3 256 → Sh M5 → ∀ M6, M6 = wr M5 18 x3 x2 → Sh M6 → Q vU M6) ∧ (x5 < x2 → inR x4 ∧ ((x5 < x4 → X G Y_X7_split d k n 8 [vA 16, vA 14, vI x2, vI x3, vI x4, vI (x5 + 1)] [] M Q) ∧ (x4 ≤ x5 → 0 ≤ x5 ∧ x5 < 400 ∧ inR (rd M 14 x5) ∧ (((rd M 14 x5) ≠ 32 → C G Y_X7_tokenEnd (d - 1) 0 0 [vA 14, vI x2, vI x5] M (rI (fun r12 M11 => Sh M11 ∧ C G Y_X7_kindOf (d - 1) 0 0 [vA 14, vI x5, vI r12] M11 (rI (fun r14 M13 => Sh M13 ∧ 0 ≤ x3 ∧ x3 < 401 ∧ ∀ M17, M17 = wr M13 17 x3 r14 → Sh M17 → ∀ M18, M18 = wr M17 18 x3 x5 → Sh M18 → X G Y_X7_split d k n 8 [vA 16, vA 14, vI x2, vI (x3 + 1), vI r12, vI (x5 + 1)] [] M18 Q))))) ∧ ((rd M 14 x5) = 32 → X G Y_X7_split d k n 8 [vA 16, vA 14, vI x2, vI x3, vI x4, vI (x5 + 1)] [] M Q))))))) : X G Y_X7_split d k n 8 [vA 16, vA 14, vI x2, vI x3, vI x4, vI x5] [] M Q := by
  have hd1 : 1 ≤ d := by omega
  refine x_iload (dA D_X7_split 6 rfl) rfl ?_
  refine x_iload_n (dA D_X7_split 7 rfl) rfl ?_
  obtain ⟨h1, h⟩ := h
  obtain ⟨h2, h⟩ := h
  refine x_icmp_geP (tgt := 73) (dA D_X7_split 8 rfl) (by decide) h1 h2 ⟨fun c => ?_, fun c => ?_⟩
  · have h := h.1 c
    refine x_aload_n (dA D_X7_split 39 rfl) rfl ?_
    refine x_get (v := vA 17) (dA D_X7_split 40 rfl) fw_RX7_9 (sO_16 hS) (congrArg (rfV G) (sR_16_0 hS)) ?_
    refine x_iload_n (dA D_X7_split 41 rfl) rfl ?_
    refine x_sipush (dA D_X7_split 42 rfl) (by decide) (by decide) ?_
    obtain ⟨h3, h⟩ := h
    obtain ⟨h4, h⟩ := h
    refine x_iast (dA D_X7_split 43 rfl) (sA_17 hS h3 h4) ?_
    refine x_nmM (fun M5 eM5 => ?_)
    have hM5 : Sh M5 := eM5 ▸ (sW_17 hS)
    have h := h M5 eM5 hM5
    refine x_aload_n (dA D_X7_split 44 rfl) rfl ?_
    refine x_get (v := vA 18) (dA D_X7_split 45 rfl) fw_RX7_15 (sO_16 hM5) (congrArg (rfV G) (sR_16_1 hM5)) ?_
    refine x_iload_n (dA D_X7_split 46 rfl) rfl ?_
    refine x_iload_n (dA D_X7_split 47 rfl) rfl ?_
    refine x_iast (dA D_X7_split 48 rfl) (sA_18 hM5 h3 h4) ?_
    refine x_nmM (fun M6 eM6 => ?_)
    have hM6 : Sh M6 := eM6 ▸ (sW_18 hM5)
    have h := h M6 eM6 hM6
    exact x_return (dA D_X7_split 49 rfl) rfl h
  · have h := h.2 c
    refine x_iload (dA D_X7_split 9 rfl) rfl ?_
    refine x_iload (dA D_X7_split 10 rfl) rfl ?_
    obtain ⟨h7, h⟩ := h
    refine x_icmp_ltP (tgt := 67) (dA D_X7_split 11 rfl) (by decide) h1 h7 ⟨fun c => ?_, fun c => ?_⟩
    · have h := h.1 c
      refine x_iinc (xs' := [vA 16, vA 14, vI x2, vI x3, vI x4, vI (x5 + 1)]) (dA D_X7_split 37 rfl) rfl (by decide) rfl ?_
      refine x_goto (tgt := 8) (dA D_X7_split 38 rfl) (by decide) ?_
      exact h
    · have h := h.2 c
      refine x_aload_n (dA D_X7_split 12 rfl) rfl ?_
      refine x_iload (dA D_X7_split 13 rfl) rfl ?_
      obtain ⟨h8, h⟩ := h
      obtain ⟨h9, h⟩ := h
      refine x_iald (dA D_X7_split 14 rfl) (sA_14 hS h8 h9) ?_
      refine x_bipush (dA D_X7_split 15 rfl) (by decide) (by decide) ?_
      obtain ⟨h10, h⟩ := h
      refine x_icmp_neP (tgt := 33) (dA D_X7_split 16 rfl) (by decide) h10 ⟨by decide, by decide⟩ ⟨fun c => ?_, fun c => ?_⟩
      · have h := h.1 c
        refine x_aload_n (dA D_X7_split 18 rfl) rfl ?_
        refine x_iload_n (dA D_X7_split 19 rfl) rfl ?_
        refine x_iload (dA D_X7_split 20 rfl) rfl ?_
        refine x_callS [vA 14, vI x2, vI x5] [] (dA D_X7_split 21 rfl) cw_RX7_48 rfl rfl (Nat.le_of_ble_eq_true rfl) hd1 (zk k) (zk n) h (kI (fun r12 M11 h => ?_))
        obtain ⟨hM11, h⟩ := h
        refine x_istore (xs' := [vA 16, vA 14, vI x2, vI x3, vI r12, vI x5]) (dA D_X7_split 22 rfl) (by decide) rfl ?_
        refine x_aload_n (dA D_X7_split 23 rfl) rfl ?_
        refine x_get (v := vA 17) (dA D_X7_split 24 rfl) fw_RX7_9 (sO_16 hM11) (congrArg (rfV G) (sR_16_0 hM11)) ?_
        refine x_iload_n (dA D_X7_split 25 rfl) rfl ?_
        refine x_aload_n (dA D_X7_split 26 rfl) rfl ?_
        refine x_iload (dA D_X7_split 27 rfl) rfl ?_
        refine x_iload (dA D_X7_split 28 rfl) rfl ?_
        refine x_callS [vA 14, vI x5, vI r12] [vI x3, vA 17] (dA D_X7_split 29 rfl) cw_RX7_52 rfl rfl (Nat.le_of_ble_eq_true rfl) hd1 (zk k) (zk n) h (kI (fun r14 M13 h => ?_))
        obtain ⟨hM13, h⟩ := h
        obtain ⟨h15, h⟩ := h
        obtain ⟨h16, h⟩ := h
        refine x_iast (dA D_X7_split 30 rfl) (sA_17 hM13 h15 h16) ?_
        refine x_nmM (fun M17 eM17 => ?_)
        have hM17 : Sh M17 := eM17 ▸ (sW_17 hM13)
        have h := h M17 eM17 hM17
        refine x_aload_n (dA D_X7_split 31 rfl) rfl ?_
        refine x_get (v := vA 18) (dA D_X7_split 32 rfl) fw_RX7_15 (sO_16 hM17) (congrArg (rfV G) (sR_16_1 hM17)) ?_
        refine x_iload_n (dA D_X7_split 33 rfl) rfl ?_
        refine x_iload (dA D_X7_split 34 rfl) rfl ?_
        refine x_iast (dA D_X7_split 35 rfl) (sA_18 hM17 h15 h16) ?_
        refine x_nmM (fun M18 eM18 => ?_)
        have hM18 : Sh M18 := eM18 ▸ (sW_18 hM17)
        have h := h M18 eM18 hM18
        refine x_iinc (xs' := [vA 16, vA 14, vI x2, vI (x3 + 1), vI r12, vI x5]) (dA D_X7_split 36 rfl) rfl (by decide) rfl ?_
        refine x_iinc (xs' := [vA 16, vA 14, vI x2, vI (x3 + 1), vI r12, vI (x5 + 1)]) (dA D_X7_split 37 rfl) rfl (by decide) rfl ?_
        refine x_goto (tgt := 8) (dA D_X7_split 38 rfl) (by decide) ?_
        exact h
      · have h := h.2 c
        refine x_goto (tgt := 67) (dA D_X7_split 17 rfl) (by decide) ?_
        refine x_iinc (xs' := [vA 16, vA 14, vI x2, vI x3, vI x4, vI (x5 + 1)]) (dA D_X7_split 37 rfl) rfl (by decide) rfl ?_
        refine x_goto (tgt := 8) (dA D_X7_split 38 rfl) (by decide) ?_
        exact h
set_option maxRecDepth 100000 in
theorem B_X7_part_0 {G : GG} {d : Nat} {k n : Nat} {x1 : Int} {M : MM} {Q : PV → MM → Prop} (hd : 2 ≤ d) (hS : Sh M) (h : 0 ≤ (rd M 16 2) ∧ (rd M 16 2) < 401 ∧ ∀ v3, v3 = rd M 17 (rd M 16 2) → inR v3 ∧ ((v3 ≠ 91 → ((((v3 < 1000) ∨ (2000 < v3)) → X G Y_X7_part d k n 91 [vA 16, vI x1, vI v3, vU, vU] [] M Q) ∧ (¬ ((v3 < 1000) ∨ (2000 < v3)) → ∀ v19, v19 = (if (306 ≤ v3) ∧ (v3 ≤ 312) then 1 else 0) → X G Y_X7_part d k n 123 [vA 16, vI x1, vI v3, vI 1, vI v19] [] M Q))) ∧ (v3 = 91 → inR x1 ∧ ((x1 ≠ 8 → ∀ M22, M22 = wr M 16 2 ((rd M 16 2) + 1) → Sh M22 → C G Y_X7_sums (d - 1) 0 0 [vA 16, vI 0, vI (x1 + 1)] M22 (rI (fun r24 M23 => Sh M23 ∧ inR r24 ∧ ((r24 = 0 → Q (vI 0) M23) ∧ (r24 ≠ 0 → 0 ≤ (rd M23 16 2) ∧ (rd M23 16 2) < 401 ∧ inR (rd M23 17 (rd M23 16 2)) ∧ (((rd M23 17 (rd M23 16 2)) = 93 → ∀ M29, M29 = wr M23 16 2 ((rd M23 16 2) + 1) → Sh M29 → Q (vI 1) M29) ∧ ((rd M23 17 (rd M23 16 2)) ≠ 93 → Q (vI 0) M23))))))) ∧ (x1 = 8 → Q (vI 0) M))))) : X G Y_X7_part d k n 0 [vA 16, vI x1, vU, vU, vU] [] M Q := by
  have hd1 : 1 ≤ d := by omega
  refine x_aload_n (dA D_X7_part 0 rfl) rfl ?_
  refine x_get (v := vA 17) (dA D_X7_part 1 rfl) fw_RX7_9 (sO_16 hS) (congrArg (rfV G) (sR_16_0 hS)) ?_
  refine x_aload_n (dA D_X7_part 2 rfl) rfl ?_
  refine x_get (v := vI (rd M 16 2)) (dA D_X7_part 3 rfl) fw_RX7_31 (sO_16 hS) rfl ?_
  obtain ⟨h1, h⟩ := h
  obtain ⟨h2, h⟩ := h
  refine x_iald (dA D_X7_part 4 rfl) (sA_17 hS h1 h2) ?_
  refine x_nmI (fun v3 ev3 => ?_)
  have h := h v3 ev3
  refine x_istore_n (xs' := [vA 16, vI x1, vI v3, vU, vU]) (dA D_X7_part 5 rfl) (by decide) rfl ?_
  refine x_iload_n (dA D_X7_part 6 rfl) rfl ?_
  refine x_bipush (dA D_X7_part 7 rfl) (by decide) (by decide) ?_
  obtain ⟨h4, h⟩ := h
  refine x_icmp_neP (tgt := 73) (dA D_X7_part 8 rfl) (by decide) h4 ⟨by decide, by decide⟩ ⟨fun c => ?_, fun c => ?_⟩
  · have h := h.1 c
    refine x_iload_n (dA D_X7_part 44 rfl) rfl ?_
    refine x_sipush (dA D_X7_part 45 rfl) (by decide) (by decide) ?_
    have hA : ((v3 < 1000) ∨ (2000 < v3)) → X G Y_X7_part d k n 91 [vA 16, vI x1, vI v3, vU, vU] [] M Q := by
      intro c20
      have h := h.1 c20
      exact h
    have hB : ¬ ((v3 < 1000) ∨ (2000 < v3)) → X G Y_X7_part d k n 92 [vA 16, vI x1, vI v3, vU, vU] [vI 1] M Q := by
      intro c20
      have h := h.2 c20
      refine x_istore_n (xs' := [vA 16, vI x1, vI v3, vI 1, vU]) (dA D_X7_part 53 rfl) (by decide) rfl ?_
      refine x_iload_n (dA D_X7_part 54 rfl) rfl ?_
      refine x_sipush (dA D_X7_part 55 rfl) (by decide) (by decide) ?_
      have hJ : X G Y_X7_part d k n 112 [vA 16, vI x1, vI v3, vI 1, vU] [vI (if (306 ≤ v3) ∧ (v3 ≤ 312) then 1 else 0)] M Q := by
        refine x_nmI (fun v19 ev19 => ?_)
        have h := h v19 ev19
        refine x_istore (xs' := [vA 16, vI x1, vI v3, vI 1, vI v19]) (dA D_X7_part 63 rfl) (by decide) rfl ?_
        refine x_iload_n (dA D_X7_part 64 rfl) rfl ?_
        refine x_if_neP (tgt := 123) (dA D_X7_part 65 rfl) (by decide) ⟨by decide, by decide⟩ ⟨fun c => ?_, fun c => ?_⟩
        · skip
          exact h
        · exact absurd c (by decide)
      refine x_icmp_ltP (tgt := 111) (dA D_X7_part 56 rfl) (by decide) h4 ⟨by decide, by decide⟩ ⟨fun c11 => ?_, fun c11 => ?_⟩
      · refine x_iconst (dA D_X7_part 62 rfl) ?_
        have e0 : (if (306 ≤ v3) ∧ (v3 ≤ 312) then (1 : Int) else 0) = 0 := if_neg (by first | omega | grind)
        rw [e0] at hJ
        exact hJ
      · refine x_iload_n (dA D_X7_part 57 rfl) rfl ?_
        refine x_sipush (dA D_X7_part 58 rfl) (by decide) (by decide) ?_
        refine x_icmp_gtP (tgt := 111) (dA D_X7_part 59 rfl) (by decide) h4 ⟨by decide, by decide⟩ ⟨fun c15 => ?_, fun c15 => ?_⟩
        · refine x_iconst (dA D_X7_part 62 rfl) ?_
          have e0 : (if (306 ≤ v3) ∧ (v3 ≤ 312) then (1 : Int) else 0) = 0 := if_neg (by first | omega | grind)
          rw [e0] at hJ
          exact hJ
        · refine x_iconst (dA D_X7_part 60 rfl) ?_
          refine x_goto (tgt := 112) (dA D_X7_part 61 rfl) (by decide) ?_
          have e0 : (if (306 ≤ v3) ∧ (v3 ≤ 312) then (1 : Int) else 0) = 1 := if_pos (by first | omega | grind)
          rw [e0] at hJ
          exact hJ
    refine x_icmp_ltP (tgt := 91) (dA D_X7_part 46 rfl) (by decide) h4 ⟨by decide, by decide⟩ ⟨fun c5 => ?_, fun c5 => ?_⟩
    · exact hA (by first | omega | grind)
    · refine x_iload_n (dA D_X7_part 47 rfl) rfl ?_
      refine x_sipush (dA D_X7_part 48 rfl) (by decide) (by decide) ?_
      refine x_icmp_gtP (tgt := 91) (dA D_X7_part 49 rfl) (by decide) h4 ⟨by decide, by decide⟩ ⟨fun c8 => ?_, fun c8 => ?_⟩
      · exact hA (by first | omega | grind)
      · refine x_iconst (dA D_X7_part 50 rfl) ?_
        refine x_goto (tgt := 92) (dA D_X7_part 51 rfl) (by decide) ?_
        exact hB (by first | omega | grind)
  · have h := h.2 c
    refine x_iload_n (dA D_X7_part 9 rfl) rfl ?_
    refine x_bipush (dA D_X7_part 10 rfl) (by decide) (by decide) ?_
    obtain ⟨h21, h⟩ := h
    refine x_icmp_neP (tgt := 24) (dA D_X7_part 11 rfl) (by decide) h21 ⟨by decide, by decide⟩ ⟨fun c => ?_, fun c => ?_⟩
    · have h := h.1 c
      refine x_aload_n (dA D_X7_part 14 rfl) rfl ?_
      refine x_dup (dA D_X7_part 15 rfl) rfl ?_
      refine x_get (v := vI (rd M 16 2)) (dA D_X7_part 16 rfl) fw_RX7_31 (sO_16 hS) rfl ?_
      refine x_iconst (dA D_X7_part 17 rfl) ?_
      refine x_iadd (dA D_X7_part 18 rfl) ?_
      refine x_put (x := (rd M 16 2) + 1) (dA D_X7_part 19 rfl) fw_RX7_31 (fun _ _ hc => by cases hc; exact Or.inl rfl) (sO_16 hS) rfl rfl rfl ?_
      refine x_nmM (fun M22 eM22 => ?_)
      have hM22 : Sh M22 := eM22 ▸ (sW_16_2 hS)
      have h := h M22 eM22 hM22
      refine x_aload_n (dA D_X7_part 20 rfl) rfl ?_
      refine x_iconst (dA D_X7_part 21 rfl) ?_
      refine x_iload_n (dA D_X7_part 22 rfl) rfl ?_
      refine x_iconst (dA D_X7_part 23 rfl) ?_
      refine x_iadd (dA D_X7_part 24 rfl) ?_
      refine x_callV 6 [vI 0, vI (x1 + 1)] [] (dA D_X7_part 25 rfl) cw_RX7_76 rfl rfl (Nat.le_of_ble_eq_true rfl) (by decide) rfl hd1 (zk k) (zk n) (sO_16 hM22) h (kI (fun r24 M23 h => ?_))
      obtain ⟨hM23, h⟩ := h
      obtain ⟨h25, h⟩ := h
      refine x_if_eqP (tgt := 59) (dA D_X7_part 26 rfl) (by decide) h25 ⟨fun c => ?_, fun c => ?_⟩
      · have h := h.1 c
        refine x_iconst (dA D_X7_part 34 rfl) ?_
        exact x_zreturn (dA D_X7_part 35 rfl) rfl (by decide) h
      · have h := h.2 c
        refine x_aload_n (dA D_X7_part 27 rfl) rfl ?_
        refine x_get (v := vA 17) (dA D_X7_part 28 rfl) fw_RX7_9 (sO_16 hM23) (congrArg (rfV G) (sR_16_0 hM23)) ?_
        refine x_aload_n (dA D_X7_part 29 rfl) rfl ?_
        refine x_get (v := vI (rd M23 16 2)) (dA D_X7_part 30 rfl) fw_RX7_31 (sO_16 hM23) rfl ?_
        obtain ⟨h26, h⟩ := h
        obtain ⟨h27, h⟩ := h
        refine x_iald (dA D_X7_part 31 rfl) (sA_17 hM23 h26 h27) ?_
        refine x_bipush (dA D_X7_part 32 rfl) (by decide) (by decide) ?_
        obtain ⟨h28, h⟩ := h
        refine x_icmp_eqP (tgt := 61) (dA D_X7_part 33 rfl) (by decide) h28 ⟨by decide, by decide⟩ ⟨fun c => ?_, fun c => ?_⟩
        · have h := h.1 c
          refine x_aload_n (dA D_X7_part 36 rfl) rfl ?_
          refine x_dup (dA D_X7_part 37 rfl) rfl ?_
          refine x_get (v := vI (rd M23 16 2)) (dA D_X7_part 38 rfl) fw_RX7_31 (sO_16 hM23) rfl ?_
          refine x_iconst (dA D_X7_part 39 rfl) ?_
          refine x_iadd (dA D_X7_part 40 rfl) ?_
          refine x_put (x := (rd M23 16 2) + 1) (dA D_X7_part 41 rfl) fw_RX7_31 (fun _ _ hc => by cases hc; exact Or.inl rfl) (sO_16 hM23) rfl rfl rfl ?_
          refine x_nmM (fun M29 eM29 => ?_)
          have hM29 : Sh M29 := eM29 ▸ (sW_16_2 hM23)
          have h := h M29 eM29 hM29
          refine x_iconst (dA D_X7_part 42 rfl) ?_
          exact x_zreturn (dA D_X7_part 43 rfl) rfl (by decide) h
        · have h := h.2 c
          refine x_iconst (dA D_X7_part 34 rfl) ?_
          exact x_zreturn (dA D_X7_part 35 rfl) rfl (by decide) h
    · have h := h.2 c
      refine x_iconst (dA D_X7_part 12 rfl) ?_
      exact x_zreturn (dA D_X7_part 13 rfl) rfl (by decide) h
theorem C_X7_part {G : GG} {d : Nat} {x1 : Int} {M : MM} {Q : PV → MM → Prop} (h : X G Y_X7_part d 0 0 0 [vA 16, vI x1, vU, vU, vU] [] M Q) : C G Y_X7_part d 0 0 [vA 16, vI x1] M Q := X.entry (by decide) (Nat.le_of_ble_eq_true rfl) rfl rfl rfl h
set_option maxRecDepth 100000 in
theorem B_X7_part_91 {G : GG} {d : Nat} {k n : Nat} {x1 x2 : Int} {M : MM} {Q : PV → MM → Prop} (hd : 1 ≤ d) (hS : Sh M) (h : inR x2 ∧ ∀ v10, v10 = (if (306 ≤ x2) ∧ (x2 ≤ 312) then 1 else 0) → inR v10 ∧ ((v10 = 0 → Q (vI 0) M) ∧ (v10 ≠ 0 → X G Y_X7_part d k n 123 [vA 16, vI x1, vI x2, vI 0, vI v10] [] M Q))) : X G Y_X7_part d k n 91 [vA 16, vI x1, vI x2, vU, vU] [] M Q := by
  have hd1 : 1 ≤ d := by omega
  refine x_iconst (dA D_X7_part 52 rfl) ?_
  refine x_istore_n (xs' := [vA 16, vI x1, vI x2, vI 0, vU]) (dA D_X7_part 53 rfl) (by decide) rfl ?_
  refine x_iload_n (dA D_X7_part 54 rfl) rfl ?_
  refine x_sipush (dA D_X7_part 55 rfl) (by decide) (by decide) ?_
  obtain ⟨h2, h⟩ := h
  have hJ : X G Y_X7_part d k n 112 [vA 16, vI x1, vI x2, vI 0, vU] [vI (if (306 ≤ x2) ∧ (x2 ≤ 312) then 1 else 0)] M Q := by
    refine x_nmI (fun v10 ev10 => ?_)
    have h := h v10 ev10
    refine x_istore (xs' := [vA 16, vI x1, vI x2, vI 0, vI v10]) (dA D_X7_part 63 rfl) (by decide) rfl ?_
    refine x_iload_n (dA D_X7_part 64 rfl) rfl ?_
    refine x_if_neP (tgt := 123) (dA D_X7_part 65 rfl) (by decide) ⟨by decide, by decide⟩ ⟨fun c => ?_, fun c => ?_⟩
    · exact absurd c (by decide)
    · skip
      refine x_iload (dA D_X7_part 66 rfl) rfl ?_
      obtain ⟨h11, h⟩ := h
      refine x_if_eqP (tgt := 132) (dA D_X7_part 67 rfl) (by decide) h11 ⟨fun c => ?_, fun c => ?_⟩
      · have h := h.1 c
        refine x_iconst (dA D_X7_part 72 rfl) ?_
        exact x_zreturn (dA D_X7_part 73 rfl) rfl (by decide) h
      · have h := h.2 c
        exact h
  refine x_icmp_ltP (tgt := 111) (dA D_X7_part 56 rfl) (by decide) h2 ⟨by decide, by decide⟩ ⟨fun c1 => ?_, fun c1 => ?_⟩
  · refine x_iconst (dA D_X7_part 62 rfl) ?_
    have e0 : (if (306 ≤ x2) ∧ (x2 ≤ 312) then (1 : Int) else 0) = 0 := if_neg (by first | omega | grind)
    rw [e0] at hJ
    exact hJ
  · refine x_iload_n (dA D_X7_part 57 rfl) rfl ?_
    refine x_sipush (dA D_X7_part 58 rfl) (by decide) (by decide) ?_
    refine x_icmp_gtP (tgt := 111) (dA D_X7_part 59 rfl) (by decide) h2 ⟨by decide, by decide⟩ ⟨fun c6 => ?_, fun c6 => ?_⟩
    · refine x_iconst (dA D_X7_part 62 rfl) ?_
      have e0 : (if (306 ≤ x2) ∧ (x2 ≤ 312) then (1 : Int) else 0) = 0 := if_neg (by first | omega | grind)
      rw [e0] at hJ
      exact hJ
    · refine x_iconst (dA D_X7_part 60 rfl) ?_
      refine x_goto (tgt := 112) (dA D_X7_part 61 rfl) (by decide) ?_
      have e0 : (if (306 ≤ x2) ∧ (x2 ≤ 312) then (1 : Int) else 0) = 1 := if_pos (by first | omega | grind)
      rw [e0] at hJ
      exact hJ
set_option maxRecDepth 100000 in
theorem B_X7_part_123 {G : GG} {d : Nat} {k n : Nat} {x1 x2 x3 x4 : Int} {M : MM} {Q : PV → MM → Prop} (hd : 2 ≤ d) (hS : Sh M) (h : inR (rd M 16 3) ∧ (((rd M 16 3) ≠ 50 → ∀ M2, M2 = wr M 16 3 ((rd M 16 3) + 1) → Sh M2 → ∀ M3, M3 = wr M2 16 2 ((rd M2 16 2) + 1) → Sh M3 → inR x3 ∧ ((x3 = 0 → C G Y_X7_emit (d - 1) 0 0 [vA 16, vI 1, vI (x2 - 306)] M3 (rU (fun M5 => Sh M5 ∧ Q (vI 1) M5))) ∧ (x3 ≠ 0 → C G Y_X7_emit (d - 1) 0 0 [vA 16, vI 0, vI (x2 - 1000)] M3 (rU (fun M6 => Sh M6 ∧ Q (vI 1) M6))))) ∧ ((rd M 16 3) = 50 → Q (vI 0) M))) : X G Y_X7_part d k n 123 [vA 16, vI x1, vI x2, vI x3, vI x4] [] M Q := by
  have hd1 : 1 ≤ d := by omega
  refine x_aload_n (dA D_X7_part 68 rfl) rfl ?_
  refine x_get (v := vI (rd M 16 3)) (dA D_X7_part 69 rfl) fw_RX7_35 (sO_16 hS) rfl ?_
  refine x_bipush (dA D_X7_part 70 rfl) (by decide) (by decide) ?_
  obtain ⟨h1, h⟩ := h
  refine x_icmp_neP (tgt := 134) (dA D_X7_part 71 rfl) (by decide) h1 ⟨by decide, by decide⟩ ⟨fun c => ?_, fun c => ?_⟩
  · have h := h.1 c
    refine x_aload_n (dA D_X7_part 74 rfl) rfl ?_
    refine x_dup (dA D_X7_part 75 rfl) rfl ?_
    refine x_get (v := vI (rd M 16 3)) (dA D_X7_part 76 rfl) fw_RX7_35 (sO_16 hS) rfl ?_
    refine x_iconst (dA D_X7_part 77 rfl) ?_
    refine x_iadd (dA D_X7_part 78 rfl) ?_
    refine x_put (x := (rd M 16 3) + 1) (dA D_X7_part 79 rfl) fw_RX7_35 (fun _ _ hc => by cases hc; exact Or.inl rfl) (sO_16 hS) rfl rfl rfl ?_
    refine x_nmM (fun M2 eM2 => ?_)
    have hM2 : Sh M2 := eM2 ▸ (sW_16_3 hS)
    have h := h M2 eM2 hM2
    refine x_aload_n (dA D_X7_part 80 rfl) rfl ?_
    refine x_dup (dA D_X7_part 81 rfl) rfl ?_
    refine x_get (v := vI (rd M2 16 2)) (dA D_X7_part 82 rfl) fw_RX7_31 (sO_16 hM2) rfl ?_
    refine x_iconst (dA D_X7_part 83 rfl) ?_
    refine x_iadd (dA D_X7_part 84 rfl) ?_
    refine x_put (x := (rd M2 16 2) + 1) (dA D_X7_part 85 rfl) fw_RX7_31 (fun _ _ hc => by cases hc; exact Or.inl rfl) (sO_16 hM2) rfl rfl rfl ?_
    refine x_nmM (fun M3 eM3 => ?_)
    have hM3 : Sh M3 := eM3 ▸ (sW_16_2 hM2)
    have h := h M3 eM3 hM3
    refine x_iload_n (dA D_X7_part 86 rfl) rfl ?_
    obtain ⟨h4, h⟩ := h
    refine x_if_eqP (tgt := 171) (dA D_X7_part 87 rfl) (by decide) h4 ⟨fun c => ?_, fun c => ?_⟩
    · have h := h.1 c
      refine x_aload_n (dA D_X7_part 95 rfl) rfl ?_
      refine x_iconst (dA D_X7_part 96 rfl) ?_
      refine x_iload_n (dA D_X7_part 97 rfl) rfl ?_
      refine x_sipush (dA D_X7_part 98 rfl) (by decide) (by decide) ?_
      refine x_isub (dA D_X7_part 99 rfl) ?_
      refine x_callV 6 [vI 1, vI (x2 - 306)] [] (dA D_X7_part 100 rfl) cw_RX7_89 rfl rfl (Nat.le_of_ble_eq_true rfl) (by decide) rfl hd1 (zk k) (zk n) (sO_16 hM3) h (kU (fun M5 h => ?_))
      obtain ⟨hM5, h⟩ := h
      refine x_iconst (dA D_X7_part 101 rfl) ?_
      exact x_zreturn (dA D_X7_part 102 rfl) rfl (by decide) h
    · have h := h.2 c
      refine x_aload_n (dA D_X7_part 88 rfl) rfl ?_
      refine x_iconst (dA D_X7_part 89 rfl) ?_
      refine x_iload_n (dA D_X7_part 90 rfl) rfl ?_
      refine x_sipush (dA D_X7_part 91 rfl) (by decide) (by decide) ?_
      refine x_isub (dA D_X7_part 92 rfl) ?_
      refine x_callV 6 [vI 0, vI (x2 - 1000)] [] (dA D_X7_part 93 rfl) cw_RX7_89 rfl rfl (Nat.le_of_ble_eq_true rfl) (by decide) rfl hd1 (zk k) (zk n) (sO_16 hM3) h (kU (fun M6 h => ?_))
      obtain ⟨hM6, h⟩ := h
      refine x_goto (tgt := 181) (dA D_X7_part 94 rfl) (by decide) ?_
      refine x_iconst (dA D_X7_part 101 rfl) ?_
      exact x_zreturn (dA D_X7_part 102 rfl) rfl (by decide) h
  · have h := h.2 c
    refine x_iconst (dA D_X7_part 72 rfl) ?_
    exact x_zreturn (dA D_X7_part 73 rfl) rfl (by decide) h
set_option maxRecDepth 100000 in
theorem B_X7_sums_0 {G : GG} {d : Nat} {k n : Nat} {x1 x2 : Int} {M : MM} {Q : PV → MM → Prop} (hd : 2 ≤ d) (hS : Sh M) (h : inR x1 ∧ ((x1 ≠ 2 → C G Y_X7_sums (d - 1) 0 0 [vA 16, vI (x1 + 1), vI x2] M (rI (fun r3 M2 => Sh M2 ∧ inR r3 ∧ ((r3 ≠ 0 → ∀ v9, v9 = (if x1 ≠ 0 then 42 else 43) → ∀ v14, v14 = (if x1 ≠ 0 then 47 else 45) → X G Y_X7_sums d k n 52 [vA 16, vI x1, vI x2, vI v9, vI v14, vI 0, vU] [] M2 Q) ∧ (r3 = 0 → Q (vI 0) M2))))) ∧ (x1 = 2 → C G Y_X7_part (d - 1) 0 0 [vA 16, vI x2] M (rI (fun r16 M15 => Sh M15 ∧ (((r16 : Int) = 0 ∨ (r16 : Int) = 1) ∧ Q (vI r16) M15)))))) : X G Y_X7_sums d k n 0 [vA 16, vI x1, vI x2, vU, vU, vU, vU] [] M Q := by
  have hd1 : 1 ≤ d := by omega
  refine x_iload_n (dA D_X7_sums 0 rfl) rfl ?_
  refine x_iconst (dA D_X7_sums 1 rfl) ?_
  obtain ⟨h1, h⟩ := h
  refine x_icmp_neP (tgt := 11) (dA D_X7_sums 2 rfl) (by decide) h1 ⟨by decide, by decide⟩ ⟨fun c => ?_, fun c => ?_⟩
  · have h := h.1 c
    refine x_aload_n (dA D_X7_sums 7 rfl) rfl ?_
    refine x_iload_n (dA D_X7_sums 8 rfl) rfl ?_
    refine x_iconst (dA D_X7_sums 9 rfl) ?_
    refine x_iadd (dA D_X7_sums 10 rfl) ?_
    refine x_iload_n (dA D_X7_sums 11 rfl) rfl ?_
    refine x_callV 6 [vI (x1 + 1), vI x2] [] (dA D_X7_sums 12 rfl) cw_RX7_76 rfl rfl (Nat.le_of_ble_eq_true rfl) (by decide) rfl hd1 (zk k) (zk n) (sO_16 hS) h (kI (fun r3 M2 h => ?_))
    obtain ⟨hM2, h⟩ := h
    obtain ⟨h4, h⟩ := h
    refine x_if_neP (tgt := 24) (dA D_X7_sums 13 rfl) (by decide) h4 ⟨fun c => ?_, fun c => ?_⟩
    · have h := h.1 c
      refine x_iload_n (dA D_X7_sums 16 rfl) rfl ?_
      have hJ : X G Y_X7_sums d k n 35 [vA 16, vI x1, vI x2, vU, vU, vU, vU] [vI (if x1 ≠ 0 then 42 else 43)] M2 Q := by
        refine x_nmI (fun v9 ev9 => ?_)
        have h := h v9 ev9
        refine x_istore_n (xs' := [vA 16, vI x1, vI x2, vI v9, vU, vU, vU]) (dA D_X7_sums 21 rfl) (by decide) rfl ?_
        refine x_iload_n (dA D_X7_sums 22 rfl) rfl ?_
        have hJ : X G Y_X7_sums d k n 47 [vA 16, vI x1, vI x2, vI v9, vU, vU, vU] [vI (if x1 ≠ 0 then 47 else 45)] M2 Q := by
          refine x_nmI (fun v14 ev14 => ?_)
          have h := h v14 ev14
          refine x_istore (xs' := [vA 16, vI x1, vI x2, vI v9, vI v14, vU, vU]) (dA D_X7_sums 27 rfl) (by decide) rfl ?_
          refine x_iconst (dA D_X7_sums 28 rfl) ?_
          refine x_istore (xs' := [vA 16, vI x1, vI x2, vI v9, vI v14, vI 0, vU]) (dA D_X7_sums 29 rfl) (by decide) rfl ?_
          exact h
        refine x_if_neP (tgt := 45) (dA D_X7_sums 23 rfl) (by decide) h1 ⟨fun c10 => ?_, fun c10 => ?_⟩
        · refine x_bipush (dA D_X7_sums 26 rfl) (by decide) (by decide) ?_
          rw [if_pos c10] at hJ
          exact hJ
        · refine x_bipush (dA D_X7_sums 24 rfl) (by decide) (by decide) ?_
          refine x_goto (tgt := 47) (dA D_X7_sums 25 rfl) (by decide) ?_
          rw [if_neg (by first | omega | grind)] at hJ
          exact hJ
      refine x_if_neP (tgt := 33) (dA D_X7_sums 17 rfl) (by decide) h1 ⟨fun c5 => ?_, fun c5 => ?_⟩
      · refine x_bipush (dA D_X7_sums 20 rfl) (by decide) (by decide) ?_
        rw [if_pos c5] at hJ
        exact hJ
      · refine x_bipush (dA D_X7_sums 18 rfl) (by decide) (by decide) ?_
        refine x_goto (tgt := 35) (dA D_X7_sums 19 rfl) (by decide) ?_
        rw [if_neg (by first | omega | grind)] at hJ
        exact hJ
    · have h := h.2 c
      refine x_iconst (dA D_X7_sums 14 rfl) ?_
      exact x_zreturn (dA D_X7_sums 15 rfl) rfl (by decide) h
  · have h := h.2 c
    refine x_aload_n (dA D_X7_sums 3 rfl) rfl ?_
    refine x_iload_n (dA D_X7_sums 4 rfl) rfl ?_
    refine x_callV 6 [vI x2] [] (dA D_X7_sums 5 rfl) cw_RX7_93 rfl rfl (Nat.le_of_ble_eq_true rfl) (by decide) rfl hd1 (zk k) (zk n) (sO_16 hS) h (kI (fun r16 M15 h => ?_))
    obtain ⟨hM15, h⟩ := h
    exact x_zreturn (dA D_X7_sums 6 rfl) rfl h.1 h.2
theorem C_X7_sums {G : GG} {d : Nat} {x1 x2 : Int} {M : MM} {Q : PV → MM → Prop} (h : X G Y_X7_sums d 0 0 0 [vA 16, vI x1, vI x2, vU, vU, vU, vU] [] M Q) : C G Y_X7_sums d 0 0 [vA 16, vI x1, vI x2] M Q := X.entry (by decide) (Nat.le_of_ble_eq_true rfl) rfl rfl rfl h
set_option maxRecDepth 100000 in
theorem B_X7_sums_52 {G : GG} {d : Nat} {k n : Nat} {x1 x2 x3 x4 x5 : Int} {M : MM} {Q : PV → MM → Prop} (hd : 1 ≤ d) (hS : Sh M) (h : inR x5 ∧ ((400 ≤ x5 → Q (vI 1) M) ∧ (x5 < 400 → 0 ≤ (rd M 16 2) ∧ (rd M 16 2) < 401 ∧ inR (rd M 17 (rd M 16 2)) ∧ inR x3 ∧ (((rd M 17 (rd M 16 2)) = x3 → X G Y_X7_sums d k n 87 [vA 16, vI x1, vI x2, vI x3, vI x4, vI x5, vU] [] M Q) ∧ ((rd M 17 (rd M 16 2)) ≠ x3 → inR x4 ∧ (((rd M 17 (rd M 16 2)) ≠ x4 → Q (vI 1) M) ∧ ((rd M 17 (rd M 16 2)) = x4 → X G Y_X7_sums d k n 87 [vA 16, vI x1, vI x2, vI x3, vI x4, vI x5, vU] [] M Q))))))) : X G Y_X7_sums d k n 52 [vA 16, vI x1, vI x2, vI x3, vI x4, vI x5, vU] [] M Q := by
  have hd1 : 1 ≤ d := by omega
  refine x_iload (dA D_X7_sums 30 rfl) rfl ?_
  refine x_sipush (dA D_X7_sums 31 rfl) (by decide) (by decide) ?_
  obtain ⟨h1, h⟩ := h
  refine x_icmp_geP (tgt := 154) (dA D_X7_sums 32 rfl) (by decide) h1 ⟨by decide, by decide⟩ ⟨fun c => ?_, fun c => ?_⟩
  · have h := h.1 c
    refine x_iconst (dA D_X7_sums 85 rfl) ?_
    exact x_zreturn (dA D_X7_sums 86 rfl) rfl (by decide) h
  · have h := h.2 c
    refine x_aload_n (dA D_X7_sums 33 rfl) rfl ?_
    refine x_get (v := vA 17) (dA D_X7_sums 34 rfl) fw_RX7_9 (sO_16 hS) (congrArg (rfV G) (sR_16_0 hS)) ?_
    refine x_aload_n (dA D_X7_sums 35 rfl) rfl ?_
    refine x_get (v := vI (rd M 16 2)) (dA D_X7_sums 36 rfl) fw_RX7_31 (sO_16 hS) rfl ?_
    obtain ⟨h2, h⟩ := h
    obtain ⟨h3, h⟩ := h
    refine x_iald (dA D_X7_sums 37 rfl) (sA_17 hS h2 h3) ?_
    refine x_iload_n (dA D_X7_sums 38 rfl) rfl ?_
    obtain ⟨h4, h⟩ := h
    obtain ⟨h5, h⟩ := h
    refine x_icmp_eqP (tgt := 87) (dA D_X7_sums 39 rfl) (by decide) h4 h5 ⟨fun c => ?_, fun c => ?_⟩
    · have h := h.1 c
      exact h
    · have h := h.2 c
      refine x_aload_n (dA D_X7_sums 40 rfl) rfl ?_
      refine x_get (v := vA 17) (dA D_X7_sums 41 rfl) fw_RX7_9 (sO_16 hS) (congrArg (rfV G) (sR_16_0 hS)) ?_
      refine x_aload_n (dA D_X7_sums 42 rfl) rfl ?_
      refine x_get (v := vI (rd M 16 2)) (dA D_X7_sums 43 rfl) fw_RX7_31 (sO_16 hS) rfl ?_
      refine x_iald (dA D_X7_sums 44 rfl) (sA_17 hS h2 h3) ?_
      refine x_iload (dA D_X7_sums 45 rfl) rfl ?_
      obtain ⟨h6, h⟩ := h
      refine x_icmp_neP (tgt := 154) (dA D_X7_sums 46 rfl) (by decide) h4 h6 ⟨fun c => ?_, fun c => ?_⟩
      · have h := h.1 c
        refine x_iconst (dA D_X7_sums 85 rfl) ?_
        exact x_zreturn (dA D_X7_sums 86 rfl) rfl (by decide) h
      · have h := h.2 c
        exact h
set_option maxRecDepth 100000 in
theorem B_X7_sums_87 {G : GG} {d : Nat} {k n : Nat} {x1 x2 x3 x4 x5 : Int} {M : MM} {Q : PV → MM → Prop} (hd : 2 ≤ d) (hS : Sh M) (h : inR x1 ∧ 0 ≤ (rd M 16 2) ∧ (rd M 16 2) < 401 ∧ inR (rd M 17 (rd M 16 2)) ∧ inR x4 ∧ ∀ v14, v14 = (if x1 ≠ 0 then 4 else 2) + (if (rd M 17 (rd M 16 2)) = x4 then 1 else 0) → ∀ M15, M15 = wr M 16 2 ((rd M 16 2) + 1) → Sh M15 → C G Y_X7_sums (d - 1) 0 0 [vA 16, vI (x1 + 1), vI x2] M15 (rI (fun r17 M16 => Sh M16 ∧ inR r17 ∧ ((r17 ≠ 0 → C G Y_X7_emit (d - 1) 0 0 [vA 16, vI v14, vI 0] M16 (rU (fun M19 => Sh M19 ∧ X G Y_X7_sums d k n 52 [vA 16, vI x1, vI x2, vI x3, vI x4, vI (x5 + 1), vU] [] M19 Q))) ∧ (r17 = 0 → Q (vI 0) M16))))) : X G Y_X7_sums d k n 87 [vA 16, vI x1, vI x2, vI x3, vI x4, vI x5, vU] [] M Q := by
  have hd1 : 1 ≤ d := by omega
  refine x_iload_n (dA D_X7_sums 47 rfl) rfl ?_
  obtain ⟨h2, h⟩ := h
  have hJ : X G Y_X7_sums d k n 96 [vA 16, vI x1, vI x2, vI x3, vI x4, vI x5, vU] [vI (if x1 ≠ 0 then 4 else 2)] M Q := by
    refine x_aload_n (dA D_X7_sums 52 rfl) rfl ?_
    refine x_get (v := vA 17) (dA D_X7_sums 53 rfl) fw_RX7_9 (sO_16 hS) (congrArg (rfV G) (sR_16_0 hS)) ?_
    refine x_aload_n (dA D_X7_sums 54 rfl) rfl ?_
    refine x_get (v := vI (rd M 16 2)) (dA D_X7_sums 55 rfl) fw_RX7_31 (sO_16 hS) rfl ?_
    obtain ⟨h6, h⟩ := h
    obtain ⟨h7, h⟩ := h
    refine x_iald (dA D_X7_sums 56 rfl) (sA_17 hS h6 h7) ?_
    refine x_iload (dA D_X7_sums 57 rfl) rfl ?_
    obtain ⟨h9, h⟩ := h
    obtain ⟨h10, h⟩ := h
    have hJ : X G Y_X7_sums d k n 115 [vA 16, vI x1, vI x2, vI x3, vI x4, vI x5, vU] [vI (if (rd M 17 (rd M 16 2)) = x4 then 1 else 0), vI (if x1 ≠ 0 then 4 else 2)] M Q := by
      refine x_iadd (dA D_X7_sums 62 rfl) ?_
      refine x_nmI (fun v14 ev14 => ?_)
      have h := h v14 ev14
      refine x_istore (xs' := [vA 16, vI x1, vI x2, vI x3, vI x4, vI x5, vI v14]) (dA D_X7_sums 63 rfl) (by decide) rfl ?_
      refine x_aload_n (dA D_X7_sums 64 rfl) rfl ?_
      refine x_dup (dA D_X7_sums 65 rfl) rfl ?_
      refine x_get (v := vI (rd M 16 2)) (dA D_X7_sums 66 rfl) fw_RX7_31 (sO_16 hS) rfl ?_
      refine x_iconst (dA D_X7_sums 67 rfl) ?_
      refine x_iadd (dA D_X7_sums 68 rfl) ?_
      refine x_put (x := (rd M 16 2) + 1) (dA D_X7_sums 69 rfl) fw_RX7_31 (fun _ _ hc => by cases hc; exact Or.inl rfl) (sO_16 hS) rfl rfl rfl ?_
      refine x_nmM (fun M15 eM15 => ?_)
      have hM15 : Sh M15 := eM15 ▸ (sW_16_2 hS)
      have h := h M15 eM15 hM15
      refine x_aload_n (dA D_X7_sums 70 rfl) rfl ?_
      refine x_iload_n (dA D_X7_sums 71 rfl) rfl ?_
      refine x_iconst (dA D_X7_sums 72 rfl) ?_
      refine x_iadd (dA D_X7_sums 73 rfl) ?_
      refine x_iload_n (dA D_X7_sums 74 rfl) rfl ?_
      refine x_callV 6 [vI (x1 + 1), vI x2] [] (dA D_X7_sums 75 rfl) cw_RX7_76 rfl rfl (Nat.le_of_ble_eq_true rfl) (by decide) rfl hd1 (zk k) (zk n) (sO_16 hM15) h (kI (fun r17 M16 h => ?_))
      obtain ⟨hM16, h⟩ := h
      obtain ⟨h18, h⟩ := h
      refine x_if_neP (tgt := 141) (dA D_X7_sums 76 rfl) (by decide) h18 ⟨fun c => ?_, fun c => ?_⟩
      · have h := h.1 c
        refine x_aload_n (dA D_X7_sums 79 rfl) rfl ?_
        refine x_iload (dA D_X7_sums 80 rfl) rfl ?_
        refine x_iconst (dA D_X7_sums 81 rfl) ?_
        refine x_callV 6 [vI v14, vI 0] [] (dA D_X7_sums 82 rfl) cw_RX7_89 rfl rfl (Nat.le_of_ble_eq_true rfl) (by decide) rfl hd1 (zk k) (zk n) (sO_16 hM16) h (kU (fun M19 h => ?_))
        obtain ⟨hM19, h⟩ := h
        refine x_iinc (xs' := [vA 16, vI x1, vI x2, vI x3, vI x4, vI (x5 + 1), vI v14]) (dA D_X7_sums 83 rfl) rfl (by decide) rfl ?_
        refine x_goto (tgt := 52) (dA D_X7_sums 84 rfl) (by decide) ?_
        refine X.weak (xs' := [vA 16, vI x1, vI x2, vI x3, vI x4, vI (x5 + 1), vU]) ⟨Or.inl rfl, Or.inl rfl, Or.inl rfl, Or.inl rfl, Or.inl rfl, Or.inl rfl, Or.inr rfl, trivial⟩ ?_
        exact h
      · have h := h.2 c
        refine x_iconst (dA D_X7_sums 77 rfl) ?_
        exact x_zreturn (dA D_X7_sums 78 rfl) rfl (by decide) h
    refine x_icmp_neP (tgt := 114) (dA D_X7_sums 58 rfl) (by decide) h9 h10 ⟨fun c8 => ?_, fun c8 => ?_⟩
    · refine x_iconst (dA D_X7_sums 61 rfl) ?_
      have e0 : (if (rd M 17 (rd M 16 2)) = x4 then (1 : Int) else 0) = 0 := if_neg (by first | omega | grind)
      rw [e0] at hJ
      exact hJ
    · refine x_iconst (dA D_X7_sums 59 rfl) ?_
      refine x_goto (tgt := 115) (dA D_X7_sums 60 rfl) (by decide) ?_
      have e0 : (if (rd M 17 (rd M 16 2)) = x4 then (1 : Int) else 0) = 1 := if_pos (by first | omega | grind)
      rw [e0] at hJ
      exact hJ
  refine x_if_neP (tgt := 95) (dA D_X7_sums 48 rfl) (by decide) h2 ⟨fun c1 => ?_, fun c1 => ?_⟩
  · refine x_iconst (dA D_X7_sums 51 rfl) ?_
    rw [if_pos c1] at hJ
    exact hJ
  · refine x_iconst (dA D_X7_sums 49 rfl) ?_
    refine x_goto (tgt := 96) (dA D_X7_sums 50 rfl) (by decide) ?_
    rw [if_neg (by first | omega | grind)] at hJ
    exact hJ
set_option maxRecDepth 100000 in
theorem B_X7_plain_0 {G : GG} {d : Nat} {k n : Nat} {x1 : Int} {M : MM} {Q : PV → MM → Prop} (hd : 1 ≤ d) (hS : Sh M) (h : X G Y_X7_plain d k n 4 [vA 16, vI x1, vI 0, vI 0] [] M Q) : X G Y_X7_plain d k n 0 [vA 16, vI x1, vU, vU] [] M Q := by
  have hd1 : 1 ≤ d := by omega
  refine x_iconst (dA D_X7_plain 0 rfl) ?_
  refine x_istore_n (xs' := [vA 16, vI x1, vI 0, vU]) (dA D_X7_plain 1 rfl) (by decide) rfl ?_
  refine x_iconst (dA D_X7_plain 2 rfl) ?_
  refine x_istore_n (xs' := [vA 16, vI x1, vI 0, vI 0]) (dA D_X7_plain 3 rfl) (by decide) rfl ?_
  exact h
theorem C_X7_plain {G : GG} {d : Nat} {x1 : Int} {M : MM} {Q : PV → MM → Prop} (h : X G Y_X7_plain d 0 0 0 [vA 16, vI x1, vU, vU] [] M Q) : C G Y_X7_plain d 0 0 [vA 16, vI x1] M Q := X.entry (by decide) (Nat.le_of_ble_eq_true rfl) rfl rfl rfl h
set_option maxRecDepth 100000 in
theorem B_X7_plain_4 {G : GG} {d : Nat} {k n : Nat} {x1 x2 x3 : Int} {M : MM} {Q : PV → MM → Prop} (hd : 1 ≤ d) (hS : Sh M) (h : inR x3 ∧ ((400 ≤ x3 → X G Y_X7_plain d k n 52 [vA 16, vI x1, vI x2, vI x3] [] M Q) ∧ (x3 < 400 → 0 ≤ (rd M 16 2) ∧ (rd M 16 2) < 401 ∧ inR (rd M 17 (rd M 16 2)) ∧ (((rd M 17 (rd M 16 2)) ≠ 305 → X G Y_X7_plain d k n 52 [vA 16, vI x1, vI x2, vI x3] [] M Q) ∧ ((rd M 17 (rd M 16 2)) = 305 → inR x2 ∧ ∀ v10, v10 = (if x2 = 0 then 1 else 0) → ∀ M11, M11 = wr M 16 2 ((rd M 16 2) + 1) → Sh M11 → X G Y_X7_plain d k n 4 [vA 16, vI x1, vI v10, vI (x3 + 1)] [] M11 Q))))) : X G Y_X7_plain d k n 4 [vA 16, vI x1, vI x2, vI x3] [] M Q := by
  have hd1 : 1 ≤ d := by omega
  refine x_iload_n (dA D_X7_plain 4 rfl) rfl ?_
  refine x_sipush (dA D_X7_plain 5 rfl) (by decide) (by decide) ?_
  obtain ⟨h1, h⟩ := h
  refine x_icmp_geP (tgt := 52) (dA D_X7_plain 6 rfl) (by decide) h1 ⟨by decide, by decide⟩ ⟨fun c => ?_, fun c => ?_⟩
  · have h := h.1 c
    exact h
  · have h := h.2 c
    refine x_aload_n (dA D_X7_plain 7 rfl) rfl ?_
    refine x_get (v := vA 17) (dA D_X7_plain 8 rfl) fw_RX7_9 (sO_16 hS) (congrArg (rfV G) (sR_16_0 hS)) ?_
    refine x_aload_n (dA D_X7_plain 9 rfl) rfl ?_
    refine x_get (v := vI (rd M 16 2)) (dA D_X7_plain 10 rfl) fw_RX7_31 (sO_16 hS) rfl ?_
    obtain ⟨h2, h⟩ := h
    obtain ⟨h3, h⟩ := h
    refine x_iald (dA D_X7_plain 11 rfl) (sA_17 hS h2 h3) ?_
    refine x_sipush (dA D_X7_plain 12 rfl) (by decide) (by decide) ?_
    obtain ⟨h4, h⟩ := h
    refine x_icmp_neP (tgt := 52) (dA D_X7_plain 13 rfl) (by decide) h4 ⟨by decide, by decide⟩ ⟨fun c => ?_, fun c => ?_⟩
    · have h := h.1 c
      exact h
    · have h := h.2 c
      refine x_iload_n (dA D_X7_plain 14 rfl) rfl ?_
      obtain ⟨h6, h⟩ := h
      have hJ : X G Y_X7_plain d k n 35 [vA 16, vI x1, vI x2, vI x3] [vI (if x2 = 0 then 1 else 0)] M Q := by
        refine x_nmI (fun v10 ev10 => ?_)
        have h := h v10 ev10
        refine x_istore_n (xs' := [vA 16, vI x1, vI v10, vI x3]) (dA D_X7_plain 19 rfl) (by decide) rfl ?_
        refine x_aload_n (dA D_X7_plain 20 rfl) rfl ?_
        refine x_dup (dA D_X7_plain 21 rfl) rfl ?_
        refine x_get (v := vI (rd M 16 2)) (dA D_X7_plain 22 rfl) fw_RX7_31 (sO_16 hS) rfl ?_
        refine x_iconst (dA D_X7_plain 23 rfl) ?_
        refine x_iadd (dA D_X7_plain 24 rfl) ?_
        refine x_put (x := (rd M 16 2) + 1) (dA D_X7_plain 25 rfl) fw_RX7_31 (fun _ _ hc => by cases hc; exact Or.inl rfl) (sO_16 hS) rfl rfl rfl ?_
        refine x_nmM (fun M11 eM11 => ?_)
        have hM11 : Sh M11 := eM11 ▸ (sW_16_2 hS)
        have h := h M11 eM11 hM11
        refine x_iinc (xs' := [vA 16, vI x1, vI v10, vI (x3 + 1)]) (dA D_X7_plain 26 rfl) rfl (by decide) rfl ?_
        refine x_goto (tgt := 4) (dA D_X7_plain 27 rfl) (by decide) ?_
        exact h
      refine x_if_neP (tgt := 34) (dA D_X7_plain 15 rfl) (by decide) h6 ⟨fun c5 => ?_, fun c5 => ?_⟩
      · refine x_iconst (dA D_X7_plain 18 rfl) ?_
        have e0 : (if x2 = 0 then (1 : Int) else 0) = 0 := if_neg (by first | omega | grind)
        rw [e0] at hJ
        exact hJ
      · refine x_iconst (dA D_X7_plain 16 rfl) ?_
        refine x_goto (tgt := 35) (dA D_X7_plain 17 rfl) (by decide) ?_
        have e0 : (if x2 = 0 then (1 : Int) else 0) = 1 := if_pos (by first | omega | grind)
        rw [e0] at hJ
        exact hJ
set_option maxRecDepth 100000 in
theorem B_X7_plain_52 {G : GG} {d : Nat} {k n : Nat} {x1 x2 x3 : Int} {M : MM} {Q : PV → MM → Prop} (hd : 2 ≤ d) (hS : Sh M) (h : 0 ≤ (rd M 16 2) ∧ (rd M 16 2) < 401 ∧ inR (rd M 17 (rd M 16 2)) ∧ (((rd M 17 (rd M 16 2)) ≠ 40 → C G Y_X7_sums (d - 1) 0 0 [vA 16, vI 0, vI x1] M (rI (fun r5 M4 => Sh M4 ∧ inR r5 ∧ ((r5 ≠ 0 → 0 ≤ (rd M4 16 2) ∧ (rd M4 16 2) < 401 ∧ ∀ v9, v9 = rd M4 17 (rd M4 16 2) → inR v9 ∧ ((((v9 = 60) ∨ ((v9 = 62) ∨ (v9 = 61))) → X G Y_X7_plain d k n 165 [vA 16, vI x1, vI x2, vI v9] [] M4 Q) ∧ (¬ ((v9 = 60) ∨ ((v9 = 62) ∨ (v9 = 61))) → Q (vI 0) M4))) ∧ (r5 = 0 → Q (vI 0) M4))))) ∧ ((rd M 17 (rd M 16 2)) = 40 → inR x1 ∧ ((x1 ≠ 8 → ∀ M22, M22 = wr M 16 2 ((rd M 16 2) + 1) → Sh M22 → C G Y_X7_tests (d - 1) 0 0 [vA 16, vI 0, vI (x1 + 1)] M22 (rI (fun r24 M23 => Sh M23 ∧ inR r24 ∧ ((r24 = 0 → Q (vI 0) M23) ∧ (r24 ≠ 0 → 0 ≤ (rd M23 16 2) ∧ (rd M23 16 2) < 401 ∧ inR (rd M23 17 (rd M23 16 2)) ∧ (((rd M23 17 (rd M23 16 2)) = 41 → ∀ M29, M29 = wr M23 16 2 ((rd M23 16 2) + 1) → Sh M29 → inR x2 ∧ ((x2 = 0 → Q (vI 1) M29) ∧ (x2 ≠ 0 → C G Y_X7_emit (d - 1) 0 0 [vA 16, vI 9, vI 0] M29 (rU (fun M31 => Sh M31 ∧ Q (vI 1) M31))))) ∧ ((rd M23 17 (rd M23 16 2)) ≠ 41 → Q (vI 0) M23))))))) ∧ (x1 = 8 → Q (vI 0) M))))) : X G Y_X7_plain d k n 52 [vA 16, vI x1, vI x2, vI x3] [] M Q := by
  have hd1 : 1 ≤ d := by omega
  refine x_aload_n (dA D_X7_plain 28 rfl) rfl ?_
  refine x_get (v := vA 17) (dA D_X7_plain 29 rfl) fw_RX7_9 (sO_16 hS) (congrArg (rfV G) (sR_16_0 hS)) ?_
  refine x_aload_n (dA D_X7_plain 30 rfl) rfl ?_
  refine x_get (v := vI (rd M 16 2)) (dA D_X7_plain 31 rfl) fw_RX7_31 (sO_16 hS) rfl ?_
  obtain ⟨h1, h⟩ := h
  obtain ⟨h2, h⟩ := h
  refine x_iald (dA D_X7_plain 32 rfl) (sA_17 hS h1 h2) ?_
  refine x_bipush (dA D_X7_plain 33 rfl) (by decide) (by decide) ?_
  obtain ⟨h3, h⟩ := h
  refine x_icmp_neP (tgt := 124) (dA D_X7_plain 34 rfl) (by decide) h3 ⟨by decide, by decide⟩ ⟨fun c => ?_, fun c => ?_⟩
  · have h := h.1 c
    refine x_aload_n (dA D_X7_plain 69 rfl) rfl ?_
    refine x_iconst (dA D_X7_plain 70 rfl) ?_
    refine x_iload_n (dA D_X7_plain 71 rfl) rfl ?_
    refine x_callV 6 [vI 0, vI x1] [] (dA D_X7_plain 72 rfl) cw_RX7_76 rfl rfl (Nat.le_of_ble_eq_true rfl) (by decide) rfl hd1 (zk k) (zk n) (sO_16 hS) h (kI (fun r5 M4 h => ?_))
    obtain ⟨hM4, h⟩ := h
    obtain ⟨h6, h⟩ := h
    refine x_if_neP (tgt := 135) (dA D_X7_plain 73 rfl) (by decide) h6 ⟨fun c => ?_, fun c => ?_⟩
    · have h := h.1 c
      refine x_aload_n (dA D_X7_plain 76 rfl) rfl ?_
      refine x_get (v := vA 17) (dA D_X7_plain 77 rfl) fw_RX7_9 (sO_16 hM4) (congrArg (rfV G) (sR_16_0 hM4)) ?_
      refine x_aload_n (dA D_X7_plain 78 rfl) rfl ?_
      refine x_get (v := vI (rd M4 16 2)) (dA D_X7_plain 79 rfl) fw_RX7_31 (sO_16 hM4) rfl ?_
      obtain ⟨h7, h⟩ := h
      obtain ⟨h8, h⟩ := h
      refine x_iald (dA D_X7_plain 80 rfl) (sA_17 hM4 h7 h8) ?_
      refine x_nmI (fun v9 ev9 => ?_)
      have h := h v9 ev9
      refine x_istore_n (xs' := [vA 16, vI x1, vI x2, vI v9]) (dA D_X7_plain 81 rfl) (by decide) rfl ?_
      refine x_iload_n (dA D_X7_plain 82 rfl) rfl ?_
      refine x_bipush (dA D_X7_plain 83 rfl) (by decide) (by decide) ?_
      obtain ⟨h11, h⟩ := h
      have hA : ((v9 = 60) ∨ ((v9 = 62) ∨ (v9 = 61))) → X G Y_X7_plain d k n 165 [vA 16, vI x1, vI x2, vI v9] [] M4 Q := by
        intro c20
        have h := h.1 c20
        exact h
      have hB : ¬ ((v9 = 60) ∨ ((v9 = 62) ∨ (v9 = 61))) → X G Y_X7_plain d k n 163 [vA 16, vI x1, vI x2, vI v9] [] M4 Q := by
        intro c20
        have h := h.2 c20
        refine x_iconst (dA D_X7_plain 91 rfl) ?_
        exact x_zreturn (dA D_X7_plain 92 rfl) rfl (by decide) h
      refine x_icmp_eqP (tgt := 165) (dA D_X7_plain 84 rfl) (by decide) h11 ⟨by decide, by decide⟩ ⟨fun c10 => ?_, fun c10 => ?_⟩
      · exact hA (by first | omega | grind)
      · refine x_iload_n (dA D_X7_plain 85 rfl) rfl ?_
        refine x_bipush (dA D_X7_plain 86 rfl) (by decide) (by decide) ?_
        refine x_icmp_eqP (tgt := 165) (dA D_X7_plain 87 rfl) (by decide) h11 ⟨by decide, by decide⟩ ⟨fun c14 => ?_, fun c14 => ?_⟩
        · exact hA (by first | omega | grind)
        · refine x_iload_n (dA D_X7_plain 88 rfl) rfl ?_
          refine x_bipush (dA D_X7_plain 89 rfl) (by decide) (by decide) ?_
          refine x_icmp_eqP (tgt := 165) (dA D_X7_plain 90 rfl) (by decide) h11 ⟨by decide, by decide⟩ ⟨fun c17 => ?_, fun c17 => ?_⟩
          · exact hA (by first | omega | grind)
          · exact hB (by first | omega | grind)
    · have h := h.2 c
      refine x_iconst (dA D_X7_plain 74 rfl) ?_
      exact x_zreturn (dA D_X7_plain 75 rfl) rfl (by decide) h
  · have h := h.2 c
    refine x_iload_n (dA D_X7_plain 35 rfl) rfl ?_
    refine x_bipush (dA D_X7_plain 36 rfl) (by decide) (by decide) ?_
    obtain ⟨h21, h⟩ := h
    refine x_icmp_neP (tgt := 74) (dA D_X7_plain 37 rfl) (by decide) h21 ⟨by decide, by decide⟩ ⟨fun c => ?_, fun c => ?_⟩
    · have h := h.1 c
      refine x_aload_n (dA D_X7_plain 40 rfl) rfl ?_
      refine x_dup (dA D_X7_plain 41 rfl) rfl ?_
      refine x_get (v := vI (rd M 16 2)) (dA D_X7_plain 42 rfl) fw_RX7_31 (sO_16 hS) rfl ?_
      refine x_iconst (dA D_X7_plain 43 rfl) ?_
      refine x_iadd (dA D_X7_plain 44 rfl) ?_
      refine x_put (x := (rd M 16 2) + 1) (dA D_X7_plain 45 rfl) fw_RX7_31 (fun _ _ hc => by cases hc; exact Or.inl rfl) (sO_16 hS) rfl rfl rfl ?_
      refine x_nmM (fun M22 eM22 => ?_)
      have hM22 : Sh M22 := eM22 ▸ (sW_16_2 hS)
      have h := h M22 eM22 hM22
      refine x_aload_n (dA D_X7_plain 46 rfl) rfl ?_
      refine x_iconst (dA D_X7_plain 47 rfl) ?_
      refine x_iload_n (dA D_X7_plain 48 rfl) rfl ?_
      refine x_iconst (dA D_X7_plain 49 rfl) ?_
      refine x_iadd (dA D_X7_plain 50 rfl) ?_
      refine x_callV 6 [vI 0, vI (x1 + 1)] [] (dA D_X7_plain 51 rfl) cw_RX7_80 rfl rfl (Nat.le_of_ble_eq_true rfl) (by decide) rfl hd1 (zk k) (zk n) (sO_16 hM22) h (kI (fun r24 M23 h => ?_))
      obtain ⟨hM23, h⟩ := h
      obtain ⟨h25, h⟩ := h
      refine x_if_eqP (tgt := 109) (dA D_X7_plain 52 rfl) (by decide) h25 ⟨fun c => ?_, fun c => ?_⟩
      · have h := h.1 c
        refine x_iconst (dA D_X7_plain 60 rfl) ?_
        exact x_zreturn (dA D_X7_plain 61 rfl) rfl (by decide) h
      · have h := h.2 c
        refine x_aload_n (dA D_X7_plain 53 rfl) rfl ?_
        refine x_get (v := vA 17) (dA D_X7_plain 54 rfl) fw_RX7_9 (sO_16 hM23) (congrArg (rfV G) (sR_16_0 hM23)) ?_
        refine x_aload_n (dA D_X7_plain 55 rfl) rfl ?_
        refine x_get (v := vI (rd M23 16 2)) (dA D_X7_plain 56 rfl) fw_RX7_31 (sO_16 hM23) rfl ?_
        obtain ⟨h26, h⟩ := h
        obtain ⟨h27, h⟩ := h
        refine x_iald (dA D_X7_plain 57 rfl) (sA_17 hM23 h26 h27) ?_
        refine x_bipush (dA D_X7_plain 58 rfl) (by decide) (by decide) ?_
        obtain ⟨h28, h⟩ := h
        refine x_icmp_eqP (tgt := 111) (dA D_X7_plain 59 rfl) (by decide) h28 ⟨by decide, by decide⟩ ⟨fun c => ?_, fun c => ?_⟩
        · have h := h.1 c
          refine x_aload_n (dA D_X7_plain 62 rfl) rfl ?_
          refine x_dup (dA D_X7_plain 63 rfl) rfl ?_
          refine x_get (v := vI (rd M23 16 2)) (dA D_X7_plain 64 rfl) fw_RX7_31 (sO_16 hM23) rfl ?_
          refine x_iconst (dA D_X7_plain 65 rfl) ?_
          refine x_iadd (dA D_X7_plain 66 rfl) ?_
          refine x_put (x := (rd M23 16 2) + 1) (dA D_X7_plain 67 rfl) fw_RX7_31 (fun _ _ hc => by cases hc; exact Or.inl rfl) (sO_16 hM23) rfl rfl rfl ?_
          refine x_nmM (fun M29 eM29 => ?_)
          have hM29 : Sh M29 := eM29 ▸ (sW_16_2 hM23)
          have h := h M29 eM29 hM29
          refine x_goto (tgt := 215) (dA D_X7_plain 68 rfl) (by decide) ?_
          refine x_iload_n (dA D_X7_plain 120 rfl) rfl ?_
          obtain ⟨h30, h⟩ := h
          refine x_if_eqP (tgt := 226) (dA D_X7_plain 121 rfl) (by decide) h30 ⟨fun c => ?_, fun c => ?_⟩
          · have h := h.1 c
            refine x_iconst (dA D_X7_plain 126 rfl) ?_
            exact x_zreturn (dA D_X7_plain 127 rfl) rfl (by decide) h
          · have h := h.2 c
            refine x_aload_n (dA D_X7_plain 122 rfl) rfl ?_
            refine x_bipush (dA D_X7_plain 123 rfl) (by decide) (by decide) ?_
            refine x_iconst (dA D_X7_plain 124 rfl) ?_
            refine x_callV 6 [vI 9, vI 0] [] (dA D_X7_plain 125 rfl) cw_RX7_89 rfl rfl (Nat.le_of_ble_eq_true rfl) (by decide) rfl hd1 (zk k) (zk n) (sO_16 hM29) h (kU (fun M31 h => ?_))
            obtain ⟨hM31, h⟩ := h
            refine x_iconst (dA D_X7_plain 126 rfl) ?_
            exact x_zreturn (dA D_X7_plain 127 rfl) rfl (by decide) h
        · have h := h.2 c
          refine x_iconst (dA D_X7_plain 60 rfl) ?_
          exact x_zreturn (dA D_X7_plain 61 rfl) rfl (by decide) h
    · have h := h.2 c
      refine x_iconst (dA D_X7_plain 38 rfl) ?_
      exact x_zreturn (dA D_X7_plain 39 rfl) rfl (by decide) h
set_option maxRecDepth 100000 in
theorem B_X7_plain_165 {G : GG} {d : Nat} {k n : Nat} {x1 x2 x3 : Int} {M : MM} {Q : PV → MM → Prop} (hd : 2 ≤ d) (hS : Sh M) (h : ∀ M1, M1 = wr M 16 2 ((rd M 16 2) + 1) → Sh M1 → C G Y_X7_sums (d - 1) 0 0 [vA 16, vI 0, vI x1] M1 (rI (fun r3 M2 => Sh M2 ∧ inR r3 ∧ ((r3 ≠ 0 → inR x3 ∧ C G Y_X7_emit (d - 1) 0 0 [vA 16, vI (if x3 ≠ 60 then (if x3 ≠ 62 then 8 else 7) else 6), vI 0] M2 (rU (fun M15 => Sh M15 ∧ inR x2 ∧ ((x2 = 0 → Q (vI 1) M15) ∧ (x2 ≠ 0 → C G Y_X7_emit (d - 1) 0 0 [vA 16, vI 9, vI 0] M15 (rU (fun M17 => Sh M17 ∧ Q (vI 1) M17))))))) ∧ (r3 = 0 → Q (vI 0) M2))))) : X G Y_X7_plain d k n 165 [vA 16, vI x1, vI x2, vI x3] [] M Q := by
  have hd1 : 1 ≤ d := by omega
  refine x_aload_n (dA D_X7_plain 93 rfl) rfl ?_
  refine x_dup (dA D_X7_plain 94 rfl) rfl ?_
  refine x_get (v := vI (rd M 16 2)) (dA D_X7_plain 95 rfl) fw_RX7_31 (sO_16 hS) rfl ?_
  refine x_iconst (dA D_X7_plain 96 rfl) ?_
  refine x_iadd (dA D_X7_plain 97 rfl) ?_
  refine x_put (x := (rd M 16 2) + 1) (dA D_X7_plain 98 rfl) fw_RX7_31 (fun _ _ hc => by cases hc; exact Or.inl rfl) (sO_16 hS) rfl rfl rfl ?_
  refine x_nmM (fun M1 eM1 => ?_)
  have hM1 : Sh M1 := eM1 ▸ (sW_16_2 hS)
  have h := h M1 eM1 hM1
  refine x_aload_n (dA D_X7_plain 99 rfl) rfl ?_
  refine x_iconst (dA D_X7_plain 100 rfl) ?_
  refine x_iload_n (dA D_X7_plain 101 rfl) rfl ?_
  refine x_callV 6 [vI 0, vI x1] [] (dA D_X7_plain 102 rfl) cw_RX7_76 rfl rfl (Nat.le_of_ble_eq_true rfl) (by decide) rfl hd1 (zk k) (zk n) (sO_16 hM1) h (kI (fun r3 M2 h => ?_))
  obtain ⟨hM2, h⟩ := h
  obtain ⟨h4, h⟩ := h
  refine x_if_neP (tgt := 186) (dA D_X7_plain 103 rfl) (by decide) h4 ⟨fun c => ?_, fun c => ?_⟩
  · have h := h.1 c
    refine x_aload_n (dA D_X7_plain 106 rfl) rfl ?_
    refine x_iload_n (dA D_X7_plain 107 rfl) rfl ?_
    refine x_bipush (dA D_X7_plain 108 rfl) (by decide) (by decide) ?_
    obtain ⟨h6, h⟩ := h
    have hJ : X G Y_X7_plain d k n 211 [vA 16, vI x1, vI x2, vI x3] [vI (if x3 ≠ 60 then (if x3 ≠ 62 then 8 else 7) else 6), vA 16] M2 Q := by
      refine x_iconst (dA D_X7_plain 118 rfl) ?_
      refine x_callV 6 [vI (if x3 ≠ 60 then (if x3 ≠ 62 then 8 else 7) else 6), vI 0] [] (dA D_X7_plain 119 rfl) cw_RX7_89 rfl rfl (Nat.le_of_ble_eq_true rfl) (by decide) rfl hd1 (zk k) (zk n) (sO_16 hM2) h (kU (fun M15 h => ?_))
      obtain ⟨hM15, h⟩ := h
      refine x_iload_n (dA D_X7_plain 120 rfl) rfl ?_
      obtain ⟨h16, h⟩ := h
      refine x_if_eqP (tgt := 226) (dA D_X7_plain 121 rfl) (by decide) h16 ⟨fun c => ?_, fun c => ?_⟩
      · have h := h.1 c
        refine x_iconst (dA D_X7_plain 126 rfl) ?_
        exact x_zreturn (dA D_X7_plain 127 rfl) rfl (by decide) h
      · have h := h.2 c
        refine x_aload_n (dA D_X7_plain 122 rfl) rfl ?_
        refine x_bipush (dA D_X7_plain 123 rfl) (by decide) (by decide) ?_
        refine x_iconst (dA D_X7_plain 124 rfl) ?_
        refine x_callV 6 [vI 9, vI 0] [] (dA D_X7_plain 125 rfl) cw_RX7_89 rfl rfl (Nat.le_of_ble_eq_true rfl) (by decide) rfl hd1 (zk k) (zk n) (sO_16 hM15) h (kU (fun M17 h => ?_))
        obtain ⟨hM17, h⟩ := h
        refine x_iconst (dA D_X7_plain 126 rfl) ?_
        exact x_zreturn (dA D_X7_plain 127 rfl) rfl (by decide) h
    refine x_icmp_neP (tgt := 198) (dA D_X7_plain 109 rfl) (by decide) h6 ⟨by decide, by decide⟩ ⟨fun c5 => ?_, fun c5 => ?_⟩
    · refine x_iload_n (dA D_X7_plain 112 rfl) rfl ?_
      refine x_bipush (dA D_X7_plain 113 rfl) (by decide) (by decide) ?_
      refine x_icmp_neP (tgt := 209) (dA D_X7_plain 114 rfl) (by decide) h6 ⟨by decide, by decide⟩ ⟨fun c9 => ?_, fun c9 => ?_⟩
      · refine x_bipush (dA D_X7_plain 117 rfl) (by decide) (by decide) ?_
        rw [if_pos c5, if_pos c9] at hJ
        exact hJ
      · refine x_bipush (dA D_X7_plain 115 rfl) (by decide) (by decide) ?_
        refine x_goto (tgt := 211) (dA D_X7_plain 116 rfl) (by decide) ?_
        rw [if_pos c5, if_neg (by first | omega | grind)] at hJ
        exact hJ
    · refine x_bipush (dA D_X7_plain 110 rfl) (by decide) (by decide) ?_
      refine x_goto (tgt := 211) (dA D_X7_plain 111 rfl) (by decide) ?_
      rw [if_neg (by first | omega | grind)] at hJ
      exact hJ
  · have h := h.2 c
    refine x_iconst (dA D_X7_plain 104 rfl) ?_
    exact x_zreturn (dA D_X7_plain 105 rfl) rfl (by decide) h
set_option maxRecDepth 100000 in
theorem B_X7_tests_0 {G : GG} {d : Nat} {k n : Nat} {x1 x2 : Int} {M : MM} {Q : PV → MM → Prop} (hd : 2 ≤ d) (hS : Sh M) (h : inR x1 ∧ ((x1 ≠ 2 → C G Y_X7_tests (d - 1) 0 0 [vA 16, vI (x1 + 1), vI x2] M (rI (fun r3 M2 => Sh M2 ∧ inR r3 ∧ ((r3 ≠ 0 → ∀ v9, v9 = (if x1 ≠ 0 then 304 else 303) → X G Y_X7_tests d k n 41 [vA 16, vI x1, vI x2, vI v9, vI 0, vU] [] M2 Q) ∧ (r3 = 0 → Q (vI 0) M2))))) ∧ (x1 = 2 → C G Y_X7_plain (d - 1) 0 0 [vA 16, vI x2] M (rI (fun r11 M10 => Sh M10 ∧ (((r11 : Int) = 0 ∨ (r11 : Int) = 1) ∧ Q (vI r11) M10)))))) : X G Y_X7_tests d k n 0 [vA 16, vI x1, vI x2, vU, vU, vU] [] M Q := by
  have hd1 : 1 ≤ d := by omega
  refine x_iload_n (dA D_X7_tests 0 rfl) rfl ?_
  refine x_iconst (dA D_X7_tests 1 rfl) ?_
  obtain ⟨h1, h⟩ := h
  refine x_icmp_neP (tgt := 11) (dA D_X7_tests 2 rfl) (by decide) h1 ⟨by decide, by decide⟩ ⟨fun c => ?_, fun c => ?_⟩
  · have h := h.1 c
    refine x_aload_n (dA D_X7_tests 7 rfl) rfl ?_
    refine x_iload_n (dA D_X7_tests 8 rfl) rfl ?_
    refine x_iconst (dA D_X7_tests 9 rfl) ?_
    refine x_iadd (dA D_X7_tests 10 rfl) ?_
    refine x_iload_n (dA D_X7_tests 11 rfl) rfl ?_
    refine x_callV 6 [vI (x1 + 1), vI x2] [] (dA D_X7_tests 12 rfl) cw_RX7_80 rfl rfl (Nat.le_of_ble_eq_true rfl) (by decide) rfl hd1 (zk k) (zk n) (sO_16 hS) h (kI (fun r3 M2 h => ?_))
    obtain ⟨hM2, h⟩ := h
    obtain ⟨h4, h⟩ := h
    refine x_if_neP (tgt := 24) (dA D_X7_tests 13 rfl) (by decide) h4 ⟨fun c => ?_, fun c => ?_⟩
    · have h := h.1 c
      refine x_iload_n (dA D_X7_tests 16 rfl) rfl ?_
      have hJ : X G Y_X7_tests d k n 37 [vA 16, vI x1, vI x2, vU, vU, vU] [vI (if x1 ≠ 0 then 304 else 303)] M2 Q := by
        refine x_nmI (fun v9 ev9 => ?_)
        have h := h v9 ev9
        refine x_istore_n (xs' := [vA 16, vI x1, vI x2, vI v9, vU, vU]) (dA D_X7_tests 21 rfl) (by decide) rfl ?_
        refine x_iconst (dA D_X7_tests 22 rfl) ?_
        refine x_istore (xs' := [vA 16, vI x1, vI x2, vI v9, vI 0, vU]) (dA D_X7_tests 23 rfl) (by decide) rfl ?_
        exact h
      refine x_if_neP (tgt := 34) (dA D_X7_tests 17 rfl) (by decide) h1 ⟨fun c5 => ?_, fun c5 => ?_⟩
      · refine x_sipush (dA D_X7_tests 20 rfl) (by decide) (by decide) ?_
        rw [if_pos c5] at hJ
        exact hJ
      · refine x_sipush (dA D_X7_tests 18 rfl) (by decide) (by decide) ?_
        refine x_goto (tgt := 37) (dA D_X7_tests 19 rfl) (by decide) ?_
        rw [if_neg (by first | omega | grind)] at hJ
        exact hJ
    · have h := h.2 c
      refine x_iconst (dA D_X7_tests 14 rfl) ?_
      exact x_zreturn (dA D_X7_tests 15 rfl) rfl (by decide) h
  · have h := h.2 c
    refine x_aload_n (dA D_X7_tests 3 rfl) rfl ?_
    refine x_iload_n (dA D_X7_tests 4 rfl) rfl ?_
    refine x_callV 6 [vI x2] [] (dA D_X7_tests 5 rfl) cw_RX7_83 rfl rfl (Nat.le_of_ble_eq_true rfl) (by decide) rfl hd1 (zk k) (zk n) (sO_16 hS) h (kI (fun r11 M10 h => ?_))
    obtain ⟨hM10, h⟩ := h
    exact x_zreturn (dA D_X7_tests 6 rfl) rfl h.1 h.2
theorem C_X7_tests {G : GG} {d : Nat} {x1 x2 : Int} {M : MM} {Q : PV → MM → Prop} (h : X G Y_X7_tests d 0 0 0 [vA 16, vI x1, vI x2, vU, vU, vU] [] M Q) : C G Y_X7_tests d 0 0 [vA 16, vI x1, vI x2] M Q := X.entry (by decide) (Nat.le_of_ble_eq_true rfl) rfl rfl rfl h
set_option maxRecDepth 100000 in
theorem B_X7_tests_41 {G : GG} {d : Nat} {k n : Nat} {x1 x2 x3 x4 : Int} {M : MM} {Q : PV → MM → Prop} (hd : 2 ≤ d) (hS : Sh M) (h : inR x4 ∧ ((400 ≤ x4 → Q (vI 1) M) ∧ (x4 < 400 → 0 ≤ (rd M 16 2) ∧ (rd M 16 2) < 401 ∧ inR (rd M 17 (rd M 16 2)) ∧ inR x3 ∧ (((rd M 17 (rd M 16 2)) ≠ x3 → Q (vI 1) M) ∧ ((rd M 17 (rd M 16 2)) = x3 → ∀ M6, M6 = wr M 16 2 ((rd M 16 2) + 1) → Sh M6 → ∀ v7, v7 = rd M6 16 8 → inR x1 ∧ C G Y_X7_emit (d - 1) 0 0 [vA 16, vI (if x1 ≠ 0 then 11 else 10), vI 0] M6 (rU (fun M13 => Sh M13 ∧ C G Y_X7_tests (d - 1) 0 0 [vA 16, vI (x1 + 1), vI x2] M13 (rI (fun r15 M14 => Sh M14 ∧ inR r15 ∧ ((r15 ≠ 0 → inR v7 ∧ ((400 ≤ v7 → X G Y_X7_tests d k n 41 [vA 16, vI x1, vI x2, vI x3, vI (x4 + 1), vU] [] M14 Q) ∧ (v7 < 400 → 0 ≤ v7 ∧ v7 < 400 ∧ ∀ M20, M20 = wr M14 21 v7 (iOr (rd M14 21 v7) (iShl (rd M14 16 8) 4)) → Sh M20 → X G Y_X7_tests d k n 41 [vA 16, vI x1, vI x2, vI x3, vI (x4 + 1), vU] [] M20 Q))) ∧ (r15 = 0 → Q (vI 0) M14))))))))))) : X G Y_X7_tests d k n 41 [vA 16, vI x1, vI x2, vI x3, vI x4, vU] [] M Q := by
  have hd1 : 1 ≤ d := by omega
  refine x_iload (dA D_X7_tests 24 rfl) rfl ?_
  refine x_sipush (dA D_X7_tests 25 rfl) (by decide) (by decide) ?_
  obtain ⟨h1, h⟩ := h
  refine x_icmp_geP (tgt := 139) (dA D_X7_tests 26 rfl) (by decide) h1 ⟨by decide, by decide⟩ ⟨fun c => ?_, fun c => ?_⟩
  · have h := h.1 c
    refine x_iconst (dA D_X7_tests 78 rfl) ?_
    exact x_zreturn (dA D_X7_tests 79 rfl) rfl (by decide) h
  · have h := h.2 c
    refine x_aload_n (dA D_X7_tests 27 rfl) rfl ?_
    refine x_get (v := vA 17) (dA D_X7_tests 28 rfl) fw_RX7_9 (sO_16 hS) (congrArg (rfV G) (sR_16_0 hS)) ?_
    refine x_aload_n (dA D_X7_tests 29 rfl) rfl ?_
    refine x_get (v := vI (rd M 16 2)) (dA D_X7_tests 30 rfl) fw_RX7_31 (sO_16 hS) rfl ?_
    obtain ⟨h2, h⟩ := h
    obtain ⟨h3, h⟩ := h
    refine x_iald (dA D_X7_tests 31 rfl) (sA_17 hS h2 h3) ?_
    refine x_iload_n (dA D_X7_tests 32 rfl) rfl ?_
    obtain ⟨h4, h⟩ := h
    obtain ⟨h5, h⟩ := h
    refine x_icmp_neP (tgt := 139) (dA D_X7_tests 33 rfl) (by decide) h4 h5 ⟨fun c => ?_, fun c => ?_⟩
    · have h := h.1 c
      refine x_iconst (dA D_X7_tests 78 rfl) ?_
      exact x_zreturn (dA D_X7_tests 79 rfl) rfl (by decide) h
    · have h := h.2 c
      refine x_aload_n (dA D_X7_tests 34 rfl) rfl ?_
      refine x_dup (dA D_X7_tests 35 rfl) rfl ?_
      refine x_get (v := vI (rd M 16 2)) (dA D_X7_tests 36 rfl) fw_RX7_31 (sO_16 hS) rfl ?_
      refine x_iconst (dA D_X7_tests 37 rfl) ?_
      refine x_iadd (dA D_X7_tests 38 rfl) ?_
      refine x_put (x := (rd M 16 2) + 1) (dA D_X7_tests 39 rfl) fw_RX7_31 (fun _ _ hc => by cases hc; exact Or.inl rfl) (sO_16 hS) rfl rfl rfl ?_
      refine x_nmM (fun M6 eM6 => ?_)
      have hM6 : Sh M6 := eM6 ▸ (sW_16_2 hS)
      have h := h M6 eM6 hM6
      refine x_aload_n (dA D_X7_tests 40 rfl) rfl ?_
      refine x_get (v := vI (rd M6 16 8)) (dA D_X7_tests 41 rfl) fw_RX7_41 (sO_16 hM6) rfl ?_
      refine x_nmI (fun v7 ev7 => ?_)
      have h := h v7 ev7
      refine x_istore (xs' := [vA 16, vI x1, vI x2, vI x3, vI x4, vI v7]) (dA D_X7_tests 42 rfl) (by decide) rfl ?_
      refine x_aload_n (dA D_X7_tests 43 rfl) rfl ?_
      refine x_iload_n (dA D_X7_tests 44 rfl) rfl ?_
      obtain ⟨h9, h⟩ := h
      have hJ : X G Y_X7_tests d k n 90 [vA 16, vI x1, vI x2, vI x3, vI x4, vI v7] [vI (if x1 ≠ 0 then 11 else 10), vA 16] M6 Q := by
        refine x_iconst (dA D_X7_tests 49 rfl) ?_
        refine x_callV 6 [vI (if x1 ≠ 0 then 11 else 10), vI 0] [] (dA D_X7_tests 50 rfl) cw_RX7_89 rfl rfl (Nat.le_of_ble_eq_true rfl) (by decide) rfl hd1 (zk k) (zk n) (sO_16 hM6) h (kU (fun M13 h => ?_))
        obtain ⟨hM13, h⟩ := h
        refine x_aload_n (dA D_X7_tests 51 rfl) rfl ?_
        refine x_iload_n (dA D_X7_tests 52 rfl) rfl ?_
        refine x_iconst (dA D_X7_tests 53 rfl) ?_
        refine x_iadd (dA D_X7_tests 54 rfl) ?_
        refine x_iload_n (dA D_X7_tests 55 rfl) rfl ?_
        refine x_callV 6 [vI (x1 + 1), vI x2] [] (dA D_X7_tests 56 rfl) cw_RX7_80 rfl rfl (Nat.le_of_ble_eq_true rfl) (by decide) rfl hd1 (zk k) (zk n) (sO_16 hM13) h (kI (fun r15 M14 h => ?_))
        obtain ⟨hM14, h⟩ := h
        obtain ⟨h16, h⟩ := h
        refine x_if_neP (tgt := 107) (dA D_X7_tests 57 rfl) (by decide) h16 ⟨fun c => ?_, fun c => ?_⟩
        · have h := h.1 c
          refine x_iload (dA D_X7_tests 60 rfl) rfl ?_
          refine x_aload_n (dA D_X7_tests 61 rfl) rfl ?_
          refine x_get (v := vA 21) (dA D_X7_tests 62 rfl) fw_RX7_24 (sO_16 hM14) (congrArg (rfV G) (sR_16_7 hM14)) ?_
          refine x_alenC (len := 400) (by decide) (by decide) (dA D_X7_tests 63 rfl) (sO_21 hM14) (sL_21 hM14) ?_
          obtain ⟨h17, h⟩ := h
          refine x_icmp_geP (tgt := 133) (dA D_X7_tests 64 rfl) (by decide) h17 ⟨by decide, by decide⟩ ⟨fun c => ?_, fun c => ?_⟩
          · have h := h.1 c
            refine x_iinc (xs' := [vA 16, vI x1, vI x2, vI x3, vI (x4 + 1), vI v7]) (dA D_X7_tests 76 rfl) rfl (by decide) rfl ?_
            refine x_goto (tgt := 41) (dA D_X7_tests 77 rfl) (by decide) ?_
            refine X.weak (xs' := [vA 16, vI x1, vI x2, vI x3, vI (x4 + 1), vU]) ⟨Or.inl rfl, Or.inl rfl, Or.inl rfl, Or.inl rfl, Or.inl rfl, Or.inr rfl, trivial⟩ ?_
            exact h
          · have h := h.2 c
            refine x_aload_n (dA D_X7_tests 65 rfl) rfl ?_
            refine x_get (v := vA 21) (dA D_X7_tests 66 rfl) fw_RX7_24 (sO_16 hM14) (congrArg (rfV G) (sR_16_7 hM14)) ?_
            refine x_iload (dA D_X7_tests 67 rfl) rfl ?_
            refine x_dup2 (dA D_X7_tests 68 rfl) rfl rfl ?_
            obtain ⟨h18, h⟩ := h
            obtain ⟨h19, h⟩ := h
            refine x_iald (dA D_X7_tests 69 rfl) (sA_21 hM14 h18 h19) ?_
            refine x_aload_n (dA D_X7_tests 70 rfl) rfl ?_
            refine x_get (v := vI (rd M14 16 8)) (dA D_X7_tests 71 rfl) fw_RX7_41 (sO_16 hM14) rfl ?_
            refine x_iconst (dA D_X7_tests 72 rfl) ?_
            refine x_ishl (dA D_X7_tests 73 rfl) ?_
            refine x_ior (dA D_X7_tests 74 rfl) ?_
            refine x_iast (dA D_X7_tests 75 rfl) (sA_21 hM14 h18 h19) ?_
            refine x_nmM (fun M20 eM20 => ?_)
            have hM20 : Sh M20 := eM20 ▸ (sW_21 hM14)
            have h := h M20 eM20 hM20
            refine x_iinc (xs' := [vA 16, vI x1, vI x2, vI x3, vI (x4 + 1), vI v7]) (dA D_X7_tests 76 rfl) rfl (by decide) rfl ?_
            refine x_goto (tgt := 41) (dA D_X7_tests 77 rfl) (by decide) ?_
            refine X.weak (xs' := [vA 16, vI x1, vI x2, vI x3, vI (x4 + 1), vU]) ⟨Or.inl rfl, Or.inl rfl, Or.inl rfl, Or.inl rfl, Or.inl rfl, Or.inr rfl, trivial⟩ ?_
            exact h
        · have h := h.2 c
          refine x_iconst (dA D_X7_tests 58 rfl) ?_
          exact x_zreturn (dA D_X7_tests 59 rfl) rfl (by decide) h
      refine x_if_neP (tgt := 88) (dA D_X7_tests 45 rfl) (by decide) h9 ⟨fun c8 => ?_, fun c8 => ?_⟩
      · refine x_bipush (dA D_X7_tests 48 rfl) (by decide) (by decide) ?_
        rw [if_pos c8] at hJ
        exact hJ
      · refine x_bipush (dA D_X7_tests 46 rfl) (by decide) (by decide) ?_
        refine x_goto (tgt := 90) (dA D_X7_tests 47 rfl) (by decide) ?_
        rw [if_neg (by first | omega | grind)] at hJ
        exact hJ
set_option maxRecDepth 100000 in
theorem B_X7_clause_0 {G : GG} {d : Nat} {k n : Nat} {M : MM} {Q : PV → MM → Prop} (hd : 1 ≤ d) (hS : Sh M) (h : 0 ≤ (rd M 16 2) ∧ (rd M 16 2) < 401 ∧ ∀ v3, v3 = (rd M 17 (rd M 16 2)) - 300 → inR v3 ∧ ((((v3 = 0) ∨ (v3 = 1)) → X G Y_X7_clause d k n 25 [vA 16, vI v3] [] M Q) ∧ (¬ ((v3 = 0) ∨ (v3 = 1)) → Q (vI 0) M))) : X G Y_X7_clause d k n 0 [vA 16, vU] [] M Q := by
  have hd1 : 1 ≤ d := by omega
  refine x_aload_n (dA D_X7_clause 0 rfl) rfl ?_
  refine x_get (v := vA 17) (dA D_X7_clause 1 rfl) fw_RX7_9 (sO_16 hS) (congrArg (rfV G) (sR_16_0 hS)) ?_
  refine x_aload_n (dA D_X7_clause 2 rfl) rfl ?_
  refine x_get (v := vI (rd M 16 2)) (dA D_X7_clause 3 rfl) fw_RX7_31 (sO_16 hS) rfl ?_
  obtain ⟨h1, h⟩ := h
  obtain ⟨h2, h⟩ := h
  refine x_iald (dA D_X7_clause 4 rfl) (sA_17 hS h1 h2) ?_
  refine x_sipush (dA D_X7_clause 5 rfl) (by decide) (by decide) ?_
  refine x_isub (dA D_X7_clause 6 rfl) ?_
  refine x_nmI (fun v3 ev3 => ?_)
  have h := h v3 ev3
  refine x_istore_n (xs' := [vA 16, vI v3]) (dA D_X7_clause 7 rfl) (by decide) rfl ?_
  refine x_iload_n (dA D_X7_clause 8 rfl) rfl ?_
  obtain ⟨h5, h⟩ := h
  have hA : ((v3 = 0) ∨ (v3 = 1)) → X G Y_X7_clause d k n 25 [vA 16, vI v3] [] M Q := by
    intro c11
    have h := h.1 c11
    exact h
  have hB : ¬ ((v3 = 0) ∨ (v3 = 1)) → X G Y_X7_clause d k n 23 [vA 16, vI v3] [] M Q := by
    intro c11
    have h := h.2 c11
    refine x_iconst (dA D_X7_clause 13 rfl) ?_
    exact x_zreturn (dA D_X7_clause 14 rfl) rfl (by decide) h
  refine x_if_eqP (tgt := 25) (dA D_X7_clause 9 rfl) (by decide) h5 ⟨fun c4 => ?_, fun c4 => ?_⟩
  · exact hA (by first | omega | grind)
  · refine x_iload_n (dA D_X7_clause 10 rfl) rfl ?_
    refine x_iconst (dA D_X7_clause 11 rfl) ?_
    refine x_icmp_eqP (tgt := 25) (dA D_X7_clause 12 rfl) (by decide) h5 ⟨by decide, by decide⟩ ⟨fun c8 => ?_, fun c8 => ?_⟩
    · exact hA (by first | omega | grind)
    · exact hB (by first | omega | grind)
theorem C_X7_clause {G : GG} {d : Nat} {M : MM} {Q : PV → MM → Prop} (h : X G Y_X7_clause d 0 0 0 [vA 16, vU] [] M Q) : C G Y_X7_clause d 0 0 [vA 16] M Q := X.entry (by decide) (Nat.le_of_ble_eq_true rfl) rfl rfl rfl h
set_option maxRecDepth 100000 in
theorem B_X7_clause_25 {G : GG} {d : Nat} {k n : Nat} {x1 : Int} {M : MM} {Q : PV → MM → Prop} (hd : 2 ≤ d) (hS : Sh M) (h : 0 ≤ (rd M 16 4) ∧ (rd M 16 4) < 12 ∧ ∀ M3, M3 = wr M 19 (rd M 16 4) x1 → Sh M3 → ∀ M4, M4 = wr M3 16 2 ((rd M3 16 2) + 1) → Sh M4 → C G Y_X7_sums (d - 1) 0 0 [vA 16, vI 0, vI 0] M4 (rI (fun r6 M5 => Sh M5 ∧ inR r6 ∧ ((r6 ≠ 0 → 0 ≤ (rd M5 16 2) ∧ (rd M5 16 2) < 401 ∧ inR (rd M5 17 (rd M5 16 2)) ∧ (((rd M5 17 (rd M5 16 2)) ≠ 302 → X G Y_X7_clause d k n 92 [vA 16, vI x1] [] M5 Q) ∧ ((rd M5 17 (rd M5 16 2)) = 302 → ∀ M11, M11 = wr M5 16 2 ((rd M5 16 2) + 1) → Sh M11 → C G Y_X7_tests (d - 1) 0 0 [vA 16, vI 0, vI 0] M11 (rI (fun r13 M12 => Sh M12 ∧ inR r13 ∧ ((r13 ≠ 0 → X G Y_X7_clause d k n 92 [vA 16, vI x1] [] M12 Q) ∧ (r13 = 0 → Q (vI 0) M12))))))) ∧ (r6 = 0 → Q (vI 0) M5))))) : X G Y_X7_clause d k n 25 [vA 16, vI x1] [] M Q := by
  have hd1 : 1 ≤ d := by omega
  refine x_aload_n (dA D_X7_clause 15 rfl) rfl ?_
  refine x_get (v := vA 19) (dA D_X7_clause 16 rfl) fw_RX7_18 (sO_16 hS) (congrArg (rfV G) (sR_16_5 hS)) ?_
  refine x_aload_n (dA D_X7_clause 17 rfl) rfl ?_
  refine x_get (v := vI (rd M 16 4)) (dA D_X7_clause 18 rfl) fw_RX7_38 (sO_16 hS) rfl ?_
  refine x_iload_n (dA D_X7_clause 19 rfl) rfl ?_
  obtain ⟨h1, h⟩ := h
  obtain ⟨h2, h⟩ := h
  refine x_iast (dA D_X7_clause 20 rfl) (sA_19 hS h1 h2) ?_
  refine x_nmM (fun M3 eM3 => ?_)
  have hM3 : Sh M3 := eM3 ▸ (sW_19 hS)
  have h := h M3 eM3 hM3
  refine x_aload_n (dA D_X7_clause 21 rfl) rfl ?_
  refine x_dup (dA D_X7_clause 22 rfl) rfl ?_
  refine x_get (v := vI (rd M3 16 2)) (dA D_X7_clause 23 rfl) fw_RX7_31 (sO_16 hM3) rfl ?_
  refine x_iconst (dA D_X7_clause 24 rfl) ?_
  refine x_iadd (dA D_X7_clause 25 rfl) ?_
  refine x_put (x := (rd M3 16 2) + 1) (dA D_X7_clause 26 rfl) fw_RX7_31 (fun _ _ hc => by cases hc; exact Or.inl rfl) (sO_16 hM3) rfl rfl rfl ?_
  refine x_nmM (fun M4 eM4 => ?_)
  have hM4 : Sh M4 := eM4 ▸ (sW_16_2 hM3)
  have h := h M4 eM4 hM4
  refine x_aload_n (dA D_X7_clause 27 rfl) rfl ?_
  refine x_iconst (dA D_X7_clause 28 rfl) ?_
  refine x_iconst (dA D_X7_clause 29 rfl) ?_
  refine x_callV 6 [vI 0, vI 0] [] (dA D_X7_clause 30 rfl) cw_RX7_76 rfl rfl (Nat.le_of_ble_eq_true rfl) (by decide) rfl hd1 (zk k) (zk n) (sO_16 hM4) h (kI (fun r6 M5 h => ?_))
  obtain ⟨hM5, h⟩ := h
  obtain ⟨h7, h⟩ := h
  refine x_if_neP (tgt := 56) (dA D_X7_clause 31 rfl) (by decide) h7 ⟨fun c => ?_, fun c => ?_⟩
  · have h := h.1 c
    refine x_aload_n (dA D_X7_clause 34 rfl) rfl ?_
    refine x_get (v := vA 17) (dA D_X7_clause 35 rfl) fw_RX7_9 (sO_16 hM5) (congrArg (rfV G) (sR_16_0 hM5)) ?_
    refine x_aload_n (dA D_X7_clause 36 rfl) rfl ?_
    refine x_get (v := vI (rd M5 16 2)) (dA D_X7_clause 37 rfl) fw_RX7_31 (sO_16 hM5) rfl ?_
    obtain ⟨h8, h⟩ := h
    obtain ⟨h9, h⟩ := h
    refine x_iald (dA D_X7_clause 38 rfl) (sA_17 hM5 h8 h9) ?_
    refine x_sipush (dA D_X7_clause 39 rfl) (by decide) (by decide) ?_
    obtain ⟨h10, h⟩ := h
    refine x_icmp_neP (tgt := 92) (dA D_X7_clause 40 rfl) (by decide) h10 ⟨by decide, by decide⟩ ⟨fun c => ?_, fun c => ?_⟩
    · have h := h.1 c
      exact h
    · have h := h.2 c
      refine x_aload_n (dA D_X7_clause 41 rfl) rfl ?_
      refine x_dup (dA D_X7_clause 42 rfl) rfl ?_
      refine x_get (v := vI (rd M5 16 2)) (dA D_X7_clause 43 rfl) fw_RX7_31 (sO_16 hM5) rfl ?_
      refine x_iconst (dA D_X7_clause 44 rfl) ?_
      refine x_iadd (dA D_X7_clause 45 rfl) ?_
      refine x_put (x := (rd M5 16 2) + 1) (dA D_X7_clause 46 rfl) fw_RX7_31 (fun _ _ hc => by cases hc; exact Or.inl rfl) (sO_16 hM5) rfl rfl rfl ?_
      refine x_nmM (fun M11 eM11 => ?_)
      have hM11 : Sh M11 := eM11 ▸ (sW_16_2 hM5)
      have h := h M11 eM11 hM11
      refine x_aload_n (dA D_X7_clause 47 rfl) rfl ?_
      refine x_iconst (dA D_X7_clause 48 rfl) ?_
      refine x_iconst (dA D_X7_clause 49 rfl) ?_
      refine x_callV 6 [vI 0, vI 0] [] (dA D_X7_clause 50 rfl) cw_RX7_80 rfl rfl (Nat.le_of_ble_eq_true rfl) (by decide) rfl hd1 (zk k) (zk n) (sO_16 hM11) h (kI (fun r13 M12 h => ?_))
      obtain ⟨hM12, h⟩ := h
      obtain ⟨h14, h⟩ := h
      refine x_if_neP (tgt := 92) (dA D_X7_clause 51 rfl) (by decide) h14 ⟨fun c => ?_, fun c => ?_⟩
      · have h := h.1 c
        exact h
      · have h := h.2 c
        refine x_iconst (dA D_X7_clause 52 rfl) ?_
        exact x_zreturn (dA D_X7_clause 53 rfl) rfl (by decide) h
  · have h := h.2 c
    refine x_iconst (dA D_X7_clause 32 rfl) ?_
    exact x_zreturn (dA D_X7_clause 33 rfl) rfl (by decide) h
set_option maxRecDepth 100000 in
theorem B_X7_clause_92 {G : GG} {d : Nat} {k n : Nat} {x1 : Int} {M : MM} {Q : PV → MM → Prop} (hd : 1 ≤ d) (hS : Sh M) (h : ∀ M1, M1 = wr M 16 4 ((rd M 16 4) + 1) → Sh M1 → 0 ≤ (rd M1 16 4) ∧ (rd M1 16 4) < 13 ∧ ∀ M4, M4 = wr M1 20 (rd M1 16 4) (rd M1 16 8) → Sh M4 → Q (vI 1) M4) : X G Y_X7_clause d k n 92 [vA 16, vI x1] [] M Q := by
  have hd1 : 1 ≤ d := by omega
  refine x_aload_n (dA D_X7_clause 54 rfl) rfl ?_
  refine x_dup (dA D_X7_clause 55 rfl) rfl ?_
  refine x_get (v := vI (rd M 16 4)) (dA D_X7_clause 56 rfl) fw_RX7_38 (sO_16 hS) rfl ?_
  refine x_iconst (dA D_X7_clause 57 rfl) ?_
  refine x_iadd (dA D_X7_clause 58 rfl) ?_
  refine x_put (x := (rd M 16 4) + 1) (dA D_X7_clause 59 rfl) fw_RX7_38 (fun _ _ hc => by cases hc; exact Or.inl rfl) (sO_16 hS) rfl rfl rfl ?_
  refine x_nmM (fun M1 eM1 => ?_)
  have hM1 : Sh M1 := eM1 ▸ (sW_16_4 hS)
  have h := h M1 eM1 hM1
  refine x_aload_n (dA D_X7_clause 60 rfl) rfl ?_
  refine x_get (v := vA 20) (dA D_X7_clause 61 rfl) fw_RX7_21 (sO_16 hM1) (congrArg (rfV G) (sR_16_6 hM1)) ?_
  refine x_aload_n (dA D_X7_clause 62 rfl) rfl ?_
  refine x_get (v := vI (rd M1 16 4)) (dA D_X7_clause 63 rfl) fw_RX7_38 (sO_16 hM1) rfl ?_
  refine x_aload_n (dA D_X7_clause 64 rfl) rfl ?_
  refine x_get (v := vI (rd M1 16 8)) (dA D_X7_clause 65 rfl) fw_RX7_41 (sO_16 hM1) rfl ?_
  obtain ⟨h2, h⟩ := h
  obtain ⟨h3, h⟩ := h
  refine x_iast (dA D_X7_clause 66 rfl) (sA_20 hM1 h2 h3) ?_
  refine x_nmM (fun M4 eM4 => ?_)
  have hM4 : Sh M4 := eM4 ▸ (sW_20 hM1)
  have h := h M4 eM4 hM4
  refine x_iconst (dA D_X7_clause 67 rfl) ?_
  exact x_zreturn (dA D_X7_clause 68 rfl) rfl (by decide) h
set_option maxRecDepth 100000 in
theorem B_X7_reads_0 {G : GG} {d : Nat} {k n : Nat} {x2 : Int} {M : MM} {Q : PV → MM → Prop} (hd : 2 ≤ d) (hS : Sh M) (h : C G Y_X7_split (d - 1) 0 0 [vA 16, vA 14, vI x2] M (rU (fun M1 => Sh M1 ∧ ∀ M2, M2 = wr M1 16 2 0 → Sh M2 → ∀ M3, M3 = wr M2 16 3 0 → Sh M3 → ∀ M4, M4 = wr M3 16 4 0 → Sh M4 → ∀ M5, M5 = wr M4 16 8 0 → Sh M5 → X G Y_X7_reads d k n 28 [vA 16, vA 14, vI x2, vI 0] [] M5 Q))) : X G Y_X7_reads d k n 0 [vA 16, vA 14, vI x2, vU] [] M Q := by
  have hd1 : 1 ≤ d := by omega
  refine x_aload_n (dA D_X7_reads 0 rfl) rfl ?_
  refine x_aload_n (dA D_X7_reads 1 rfl) rfl ?_
  refine x_iload_n (dA D_X7_reads 2 rfl) rfl ?_
  refine x_callV 6 [vA 14, vI x2] [] (dA D_X7_reads 3 rfl) cw_RX7_27 rfl rfl (Nat.le_of_ble_eq_true rfl) (by decide) rfl hd1 (zk k) (zk n) (sO_16 hS) h (kU (fun M1 h => ?_))
  obtain ⟨hM1, h⟩ := h
  refine x_aload_n (dA D_X7_reads 4 rfl) rfl ?_
  refine x_iconst (dA D_X7_reads 5 rfl) ?_
  refine x_put (x := 0) (dA D_X7_reads 6 rfl) fw_RX7_31 (fun _ _ hc => by cases hc; exact Or.inl rfl) (sO_16 hM1) rfl rfl rfl ?_
  refine x_nmM (fun M2 eM2 => ?_)
  have hM2 : Sh M2 := eM2 ▸ (sW_16_2 hM1)
  have h := h M2 eM2 hM2
  refine x_aload_n (dA D_X7_reads 7 rfl) rfl ?_
  refine x_iconst (dA D_X7_reads 8 rfl) ?_
  refine x_put (x := 0) (dA D_X7_reads 9 rfl) fw_RX7_35 (fun _ _ hc => by cases hc; exact Or.inl rfl) (sO_16 hM2) rfl rfl rfl ?_
  refine x_nmM (fun M3 eM3 => ?_)
  have hM3 : Sh M3 := eM3 ▸ (sW_16_3 hM2)
  have h := h M3 eM3 hM3
  refine x_aload_n (dA D_X7_reads 10 rfl) rfl ?_
  refine x_iconst (dA D_X7_reads 11 rfl) ?_
  refine x_put (x := 0) (dA D_X7_reads 12 rfl) fw_RX7_38 (fun _ _ hc => by cases hc; exact Or.inl rfl) (sO_16 hM3) rfl rfl rfl ?_
  refine x_nmM (fun M4 eM4 => ?_)
  have hM4 : Sh M4 := eM4 ▸ (sW_16_4 hM3)
  have h := h M4 eM4 hM4
  refine x_aload_n (dA D_X7_reads 13 rfl) rfl ?_
  refine x_iconst (dA D_X7_reads 14 rfl) ?_
  refine x_put (x := 0) (dA D_X7_reads 15 rfl) fw_RX7_41 (fun _ _ hc => by cases hc; exact Or.inl rfl) (sO_16 hM4) rfl rfl rfl ?_
  refine x_nmM (fun M5 eM5 => ?_)
  have hM5 : Sh M5 := eM5 ▸ (sW_16_8 hM4)
  have h := h M5 eM5 hM5
  refine x_iconst (dA D_X7_reads 16 rfl) ?_
  refine x_istore_n (xs' := [vA 16, vA 14, vI x2, vI 0]) (dA D_X7_reads 17 rfl) (by decide) rfl ?_
  exact h
theorem C_X7_reads {G : GG} {d : Nat} {x2 : Int} {M : MM} {Q : PV → MM → Prop} (h : X G Y_X7_reads d 0 0 0 [vA 16, vA 14, vI x2, vU] [] M Q) : C G Y_X7_reads d 0 0 [vA 16, vA 14, vI x2] M Q := X.entry (by decide) (Nat.le_of_ble_eq_true rfl) rfl rfl rfl h
set_option maxRecDepth 100000 in
theorem B_X7_reads_28 {G : GG} {d : Nat} {k n : Nat} {x2 x3 : Int} {M : MM} {Q : PV → MM → Prop} (hd : 2 ≤ d) (hS : Sh M) (h : inR x3 ∧ ((12 ≤ x3 → 0 ≤ (rd M 16 2) ∧ (rd M 16 2) < 401 ∧ Q (vI (rd M 18 (rd M 16 2))) M) ∧ (x3 < 12 → C G Y_X7_clause (d - 1) 0 0 [vA 16] M (rI (fun r5 M4 => Sh M4 ∧ inR r5 ∧ ((r5 ≠ 0 → 0 ≤ (rd M4 16 2) ∧ (rd M4 16 2) < 401 ∧ inR (rd M4 17 (rd M4 16 2)) ∧ (((rd M4 17 (rd M4 16 2)) ≠ 256 → (((rd M4 17 (rd M4 16 2)) = 59 → ∀ M10, M10 = wr M4 16 2 ((rd M4 16 2) + 1) → Sh M10 → X G Y_X7_reads d k n 28 [vA 16, vA 14, vI x2, vI (x3 + 1)] [] M10 Q) ∧ ((rd M4 17 (rd M4 16 2)) ≠ 59 → Q (vI (rd M4 18 (rd M4 16 2))) M4))) ∧ ((rd M4 17 (rd M4 16 2)) = 256 → Q (vI (-1)) M4))) ∧ (r5 = 0 → 0 ≤ (rd M4 16 2) ∧ (rd M4 16 2) < 401 ∧ Q (vI (rd M4 18 (rd M4 16 2))) M4))))))) : X G Y_X7_reads d k n 28 [vA 16, vA 14, vI x2, vI x3] [] M Q := by
  have hd1 : 1 ≤ d := by omega
  refine x_iload_n (dA D_X7_reads 18 rfl) rfl ?_
  refine x_bipush (dA D_X7_reads 19 rfl) (by decide) (by decide) ?_
  obtain ⟨h1, h⟩ := h
  refine x_icmp_geP (tgt := 108) (dA D_X7_reads 20 rfl) (by decide) h1 ⟨by decide, by decide⟩ ⟨fun c => ?_, fun c => ?_⟩
  · have h := h.1 c
    refine x_aload_n (dA D_X7_reads 60 rfl) rfl ?_
    refine x_get (v := vA 18) (dA D_X7_reads 61 rfl) fw_RX7_15 (sO_16 hS) (congrArg (rfV G) (sR_16_1 hS)) ?_
    refine x_aload_n (dA D_X7_reads 62 rfl) rfl ?_
    refine x_get (v := vI (rd M 16 2)) (dA D_X7_reads 63 rfl) fw_RX7_31 (sO_16 hS) rfl ?_
    obtain ⟨h2, h⟩ := h
    obtain ⟨h3, h⟩ := h
    refine x_iald (dA D_X7_reads 64 rfl) (sA_18 hS h2 h3) ?_
    exact x_ireturn (dA D_X7_reads 65 rfl) rfl h
  · have h := h.2 c
    refine x_aload_n (dA D_X7_reads 21 rfl) rfl ?_
    refine x_callV 6 [] [] (dA D_X7_reads 22 rfl) cw_RX7_44 rfl rfl (Nat.le_of_ble_eq_true rfl) (by decide) rfl hd1 (zk k) (zk n) (sO_16 hS) h (kI (fun r5 M4 h => ?_))
    obtain ⟨hM4, h⟩ := h
    obtain ⟨h6, h⟩ := h
    refine x_if_neP (tgt := 51) (dA D_X7_reads 23 rfl) (by decide) h6 ⟨fun c => ?_, fun c => ?_⟩
    · have h := h.1 c
      refine x_aload_n (dA D_X7_reads 30 rfl) rfl ?_
      refine x_get (v := vA 17) (dA D_X7_reads 31 rfl) fw_RX7_9 (sO_16 hM4) (congrArg (rfV G) (sR_16_0 hM4)) ?_
      refine x_aload_n (dA D_X7_reads 32 rfl) rfl ?_
      refine x_get (v := vI (rd M4 16 2)) (dA D_X7_reads 33 rfl) fw_RX7_31 (sO_16 hM4) rfl ?_
      obtain ⟨h7, h⟩ := h
      obtain ⟨h8, h⟩ := h
      refine x_iald (dA D_X7_reads 34 rfl) (sA_17 hM4 h7 h8) ?_
      refine x_sipush (dA D_X7_reads 35 rfl) (by decide) (by decide) ?_
      obtain ⟨h9, h⟩ := h
      refine x_icmp_neP (tgt := 68) (dA D_X7_reads 36 rfl) (by decide) h9 ⟨by decide, by decide⟩ ⟨fun c => ?_, fun c => ?_⟩
      · have h := h.1 c
        refine x_aload_n (dA D_X7_reads 39 rfl) rfl ?_
        refine x_get (v := vA 17) (dA D_X7_reads 40 rfl) fw_RX7_9 (sO_16 hM4) (congrArg (rfV G) (sR_16_0 hM4)) ?_
        refine x_aload_n (dA D_X7_reads 41 rfl) rfl ?_
        refine x_get (v := vI (rd M4 16 2)) (dA D_X7_reads 42 rfl) fw_RX7_31 (sO_16 hM4) rfl ?_
        refine x_iald (dA D_X7_reads 43 rfl) (sA_17 hM4 h7 h8) ?_
        refine x_bipush (dA D_X7_reads 44 rfl) (by decide) (by decide) ?_
        refine x_icmp_eqP (tgt := 92) (dA D_X7_reads 45 rfl) (by decide) h9 ⟨by decide, by decide⟩ ⟨fun c => ?_, fun c => ?_⟩
        · have h := h.1 c
          refine x_aload_n (dA D_X7_reads 52 rfl) rfl ?_
          refine x_dup (dA D_X7_reads 53 rfl) rfl ?_
          refine x_get (v := vI (rd M4 16 2)) (dA D_X7_reads 54 rfl) fw_RX7_31 (sO_16 hM4) rfl ?_
          refine x_iconst (dA D_X7_reads 55 rfl) ?_
          refine x_iadd (dA D_X7_reads 56 rfl) ?_
          refine x_put (x := (rd M4 16 2) + 1) (dA D_X7_reads 57 rfl) fw_RX7_31 (fun _ _ hc => by cases hc; exact Or.inl rfl) (sO_16 hM4) rfl rfl rfl ?_
          refine x_nmM (fun M10 eM10 => ?_)
          have hM10 : Sh M10 := eM10 ▸ (sW_16_2 hM4)
          have h := h M10 eM10 hM10
          refine x_iinc (xs' := [vA 16, vA 14, vI x2, vI (x3 + 1)]) (dA D_X7_reads 58 rfl) rfl (by decide) rfl ?_
          refine x_goto (tgt := 28) (dA D_X7_reads 59 rfl) (by decide) ?_
          exact h
        · have h := h.2 c
          refine x_aload_n (dA D_X7_reads 46 rfl) rfl ?_
          refine x_get (v := vA 18) (dA D_X7_reads 47 rfl) fw_RX7_15 (sO_16 hM4) (congrArg (rfV G) (sR_16_1 hM4)) ?_
          refine x_aload_n (dA D_X7_reads 48 rfl) rfl ?_
          refine x_get (v := vI (rd M4 16 2)) (dA D_X7_reads 49 rfl) fw_RX7_31 (sO_16 hM4) rfl ?_
          refine x_iald (dA D_X7_reads 50 rfl) (sA_18 hM4 h7 h8) ?_
          exact x_ireturn (dA D_X7_reads 51 rfl) rfl h
      · have h := h.2 c
        refine x_iconst (dA D_X7_reads 37 rfl) ?_
        exact x_ireturn (dA D_X7_reads 38 rfl) rfl h
    · have h := h.2 c
      refine x_aload_n (dA D_X7_reads 24 rfl) rfl ?_
      refine x_get (v := vA 18) (dA D_X7_reads 25 rfl) fw_RX7_15 (sO_16 hM4) (congrArg (rfV G) (sR_16_1 hM4)) ?_
      refine x_aload_n (dA D_X7_reads 26 rfl) rfl ?_
      refine x_get (v := vI (rd M4 16 2)) (dA D_X7_reads 27 rfl) fw_RX7_31 (sO_16 hM4) rfl ?_
      obtain ⟨h11, h⟩ := h
      obtain ⟨h12, h⟩ := h
      refine x_iald (dA D_X7_reads 28 rfl) (sA_18 hM4 h11 h12) ?_
      exact x_ireturn (dA D_X7_reads 29 rfl) rfl h
set_option maxRecDepth 100000 in
theorem B_X12_goOn_0 {G : GG} {d : Nat} {k n : Nat} {M : MM} {Q : PV → MM → Prop} (hd : 1 ≤ d) (hS : Sh M) (h : ∀ M1, M1 = wr M 67 9 (rd M 67 10) → Sh M1 → X G Y_X12_goOn d k n 8 [vA 67] [] M1 Q) : X G Y_X12_goOn d k n 0 [vA 67] [] M Q := by
  have hd1 : 1 ≤ d := by omega
  refine x_aload_n (dA D_X12_goOn 0 rfl) rfl ?_
  refine x_aload_n (dA D_X12_goOn 1 rfl) rfl ?_
  refine x_get (v := vI (rd M 67 10)) (dA D_X12_goOn 2 rfl) fw_RX12_178 (sO_67 hS) rfl ?_
  refine x_put (x := rd M 67 10) (dA D_X12_goOn 3 rfl) fw_RX12_188 (fun _ _ hc => by cases hc; exact Or.inl rfl) (sO_67 hS) rfl rfl rfl ?_
  refine x_nmM (fun M1 eM1 => ?_)
  have hM1 : Sh M1 := eM1 ▸ (sW_67_9 hS)
  have h := h M1 eM1 hM1
  exact h
theorem C_X12_goOn {G : GG} {d : Nat} {M : MM} {Q : PV → MM → Prop} (h : X G Y_X12_goOn d 0 0 0 [vA 67] [] M Q) : C G Y_X12_goOn d 0 0 [vA 67] M Q := X.entry (by decide) (Nat.le_of_ble_eq_true rfl) rfl rfl rfl h
set_option maxRecDepth 100000 in
theorem B_X12_goOn_8 {G : GG} {d : Nat} {k n : Nat} {M : MM} {Q : PV → MM → Prop} (hd : 1 ≤ d) (hS : Sh M) (h : inR (rd M 67 9) ∧ inR (rd M 67 8) ∧ (((rd M 67 8) ≤ (rd M 67 9) → X G Y_X12_goOn d k n 46 [vA 67] [] M Q) ∧ ((rd M 67 9) < (rd M 67 8) → 0 ≤ (rd M 67 9) ∧ (rd M 67 9) < 400 ∧ inR (rd M 72 (rd M 67 9)) ∧ (((rd M 72 (rd M 67 9)) ≠ 32 → X G Y_X12_goOn d k n 46 [vA 67] [] M Q) ∧ ((rd M 72 (rd M 67 9)) = 32 → ∀ M6, M6 = wr M 67 9 ((rd M 67 9) + 1) → Sh M6 → X G Y_X12_goOn d k n 8 [vA 67] [] M6 Q))))) : X G Y_X12_goOn d k n 8 [vA 67] [] M Q := by
  have hd1 : 1 ≤ d := by omega
  refine x_aload_n (dA D_X12_goOn 4 rfl) rfl ?_
  refine x_get (v := vI (rd M 67 9)) (dA D_X12_goOn 5 rfl) fw_RX12_188 (sO_67 hS) rfl ?_
  refine x_aload_n (dA D_X12_goOn 6 rfl) rfl ?_
  refine x_get (v := vI (rd M 67 8)) (dA D_X12_goOn 7 rfl) fw_RX12_168 (sO_67 hS) rfl ?_
  obtain ⟨h1, h⟩ := h
  obtain ⟨h2, h⟩ := h
  refine x_icmp_geP (tgt := 46) (dA D_X12_goOn 8 rfl) (by decide) h1 h2 ⟨fun c => ?_, fun c => ?_⟩
  · have h := h.1 c
    exact h
  · have h := h.2 c
    refine x_aload_n (dA D_X12_goOn 9 rfl) rfl ?_
    refine x_get (v := vA 72) (dA D_X12_goOn 10 rfl) fw_RX12_23 (sO_67 hS) (congrArg (rfV G) (sR_67_7 hS)) ?_
    refine x_aload_n (dA D_X12_goOn 11 rfl) rfl ?_
    refine x_get (v := vI (rd M 67 9)) (dA D_X12_goOn 12 rfl) fw_RX12_188 (sO_67 hS) rfl ?_
    obtain ⟨h3, h⟩ := h
    obtain ⟨h4, h⟩ := h
    refine x_iald (dA D_X12_goOn 13 rfl) (sA_72 hS h3 h4) ?_
    refine x_bipush (dA D_X12_goOn 14 rfl) (by decide) (by decide) ?_
    obtain ⟨h5, h⟩ := h
    refine x_icmp_neP (tgt := 46) (dA D_X12_goOn 15 rfl) (by decide) h5 ⟨by decide, by decide⟩ ⟨fun c => ?_, fun c => ?_⟩
    · have h := h.1 c
      exact h
    · have h := h.2 c
      refine x_aload_n (dA D_X12_goOn 16 rfl) rfl ?_
      refine x_dup (dA D_X12_goOn 17 rfl) rfl ?_
      refine x_get (v := vI (rd M 67 9)) (dA D_X12_goOn 18 rfl) fw_RX12_188 (sO_67 hS) rfl ?_
      refine x_iconst (dA D_X12_goOn 19 rfl) ?_
      refine x_iadd (dA D_X12_goOn 20 rfl) ?_
      refine x_put (x := (rd M 67 9) + 1) (dA D_X12_goOn 21 rfl) fw_RX12_188 (fun _ _ hc => by cases hc; exact Or.inl rfl) (sO_67 hS) rfl rfl rfl ?_
      refine x_nmM (fun M6 eM6 => ?_)
      have hM6 : Sh M6 := eM6 ▸ (sW_67_9 hS)
      have h := h M6 eM6 hM6
      refine x_goto (tgt := 8) (dA D_X12_goOn 22 rfl) (by decide) ?_
      exact h
set_option maxRecDepth 100000 in
theorem B_X12_goOn_46 {G : GG} {d : Nat} {k n : Nat} {M : MM} {Q : PV → MM → Prop} (hd : 2 ≤ d) (hS : Sh M) (h : ∀ M1, M1 = wr M 67 10 (rd M 67 9) → Sh M1 → ∀ M2, M2 = wr M1 67 12 0 → Sh M2 → inR (rd M2 67 9) ∧ inR (rd M2 67 8) ∧ (((rd M2 67 9) ≠ (rd M2 67 8) → 0 ≤ (rd M2 67 9) ∧ (rd M2 67 9) < 400 ∧ inR (rd M2 72 (rd M2 67 9)) ∧ ((¬ ((97 ≤ (rd M2 72 (rd M2 67 9))) ∧ ((rd M2 72 (rd M2 67 9)) ≤ 122)) → ∀ M12, M12 = wr M2 67 11 (if ¬ ((48 ≤ (rd M2 72 (rd M2 67 9))) ∧ ((rd M2 72 (rd M2 67 9)) ≤ 57)) then 3 else 2) → Sh M12 → inR (rd M12 67 11) ∧ (((rd M12 67 11) ≠ 3 → X G Y_X12_goOn d k n 149 [vA 67] [] M12 Q) ∧ ((rd M12 67 11) = 3 → 0 ≤ (rd M12 67 9) ∧ (rd M12 67 9) < 400 ∧ inR (rd M12 72 (rd M12 67 9)) ∧ ∀ M17, M17 = wr M12 67 12 (rd M12 72 (rd M12 67 9)) → Sh M17 → ∀ M18, M18 = wr M17 67 10 ((rd M17 67 10) + 1) → Sh M18 → X G Y_X12_goOn d k n 149 [vA 67] [] M18 Q))) ∧ ((97 ≤ (rd M2 72 (rd M2 67 9))) ∧ ((rd M2 72 (rd M2 67 9)) ≤ 122) → ∀ M19, M19 = wr M2 67 11 1 → Sh M19 → inR (rd M19 67 11) ∧ (((rd M19 67 11) ≠ 3 → X G Y_X12_goOn d k n 149 [vA 67] [] M19 Q) ∧ ((rd M19 67 11) = 3 → 0 ≤ (rd M19 67 9) ∧ (rd M19 67 9) < 400 ∧ inR (rd M19 72 (rd M19 67 9)) ∧ ∀ M24, M24 = wr M19 67 12 (rd M19 72 (rd M19 67 9)) → Sh M24 → ∀ M25, M25 = wr M24 67 10 ((rd M24 67 10) + 1) → Sh M25 → X G Y_X12_goOn d k n 149 [vA 67] [] M25 Q))))) ∧ ((rd M2 67 9) = (rd M2 67 8) → ∀ M26, M26 = wr M2 67 11 0 → Sh M26 → inR (rd M26 67 11) ∧ (((rd M26 67 11) ≠ 3 → X G Y_X12_goOn d k n 149 [vA 67] [] M26 Q) ∧ ((rd M26 67 11) = 3 → 0 ≤ (rd M26 67 9) ∧ (rd M26 67 9) < 400 ∧ inR (rd M26 72 (rd M26 67 9)) ∧ ∀ M31, M31 = wr M26 67 12 (rd M26 72 (rd M26 67 9)) → Sh M31 → ∀ M32, M32 = wr M31 67 10 ((rd M31 67 10) + 1) → Sh M32 → X G Y_X12_goOn d k n 149 [vA 67] [] M32 Q))))) : X G Y_X12_goOn d k n 46 [vA 67] [] M Q := by
  have hd1 : 1 ≤ d := by omega
  refine x_aload_n (dA D_X12_goOn 23 rfl) rfl ?_
  refine x_aload_n (dA D_X12_goOn 24 rfl) rfl ?_
  refine x_get (v := vI (rd M 67 9)) (dA D_X12_goOn 25 rfl) fw_RX12_188 (sO_67 hS) rfl ?_
  refine x_put (x := rd M 67 9) (dA D_X12_goOn 26 rfl) fw_RX12_178 (fun _ _ hc => by cases hc; exact Or.inl rfl) (sO_67 hS) rfl rfl rfl ?_
  refine x_nmM (fun M1 eM1 => ?_)
  have hM1 : Sh M1 := eM1 ▸ (sW_67_10 hS)
  have h := h M1 eM1 hM1
  refine x_aload_n (dA D_X12_goOn 27 rfl) rfl ?_
  refine x_lconst (a := 0) (dA D_X12_goOn 28 rfl) (by decide) ?_
  refine x_put (x := 0) (dA D_X12_goOn 29 rfl) fw_RX12_191 (fun _ _ hc => by cases hc; exact Or.inl rfl) (sO_67 hM1) rfl rfl rfl ?_
  refine x_nmM (fun M2 eM2 => ?_)
  have hM2 : Sh M2 := eM2 ▸ (sW_67_12 hM1)
  have h := h M2 eM2 hM2
  refine x_aload_n (dA D_X12_goOn 30 rfl) rfl ?_
  refine x_aload_n (dA D_X12_goOn 31 rfl) rfl ?_
  refine x_get (v := vI (rd M2 67 9)) (dA D_X12_goOn 32 rfl) fw_RX12_188 (sO_67 hM2) rfl ?_
  refine x_aload_n (dA D_X12_goOn 33 rfl) rfl ?_
  refine x_get (v := vI (rd M2 67 8)) (dA D_X12_goOn 34 rfl) fw_RX12_168 (sO_67 hM2) rfl ?_
  obtain ⟨h3, h⟩ := h
  obtain ⟨h4, h⟩ := h
  refine x_icmp_neP (tgt := 75) (dA D_X12_goOn 35 rfl) (by decide) h3 h4 ⟨fun c => ?_, fun c => ?_⟩
  · have h := h.1 c
    refine x_aload_n (dA D_X12_goOn 38 rfl) rfl ?_
    refine x_get (v := vA 72) (dA D_X12_goOn 39 rfl) fw_RX12_23 (sO_67 hM2) (congrArg (rfV G) (sR_67_7 hM2)) ?_
    refine x_aload_n (dA D_X12_goOn 40 rfl) rfl ?_
    refine x_get (v := vI (rd M2 67 9)) (dA D_X12_goOn 41 rfl) fw_RX12_188 (sO_67 hM2) rfl ?_
    obtain ⟨h5, h⟩ := h
    obtain ⟨h6, h⟩ := h
    refine x_iald (dA D_X12_goOn 42 rfl) (sA_72 hM2 h5 h6) ?_
    obtain ⟨h7, h⟩ := h
    refine x_callS [vI (rd M2 72 (rd M2 67 9))] [vA 67] (dA D_X12_goOn 43 rfl) cw_RX12_195 rfl rfl (Nat.le_of_ble_eq_true rfl) hd1 (zk k) (zk n) (S_X12_isSmall h7 (by omega) ?_) (kI (fun _ _ h => h))
    show X G Y_X12_goOn d k n 87 [vA 67] [vI (if (97 ≤ (rd M2 72 (rd M2 67 9))) ∧ ((rd M2 72 (rd M2 67 9)) ≤ 122) then 1 else 0), vA 67] M2 Q
    refine x_if_eqB (tgt := 94) (dA D_X12_goOn 44 rfl) (by decide) ⟨fun c => ?_, fun c => ?_⟩
    · have h := h.1 c
      refine x_aload_n (dA D_X12_goOn 47 rfl) rfl ?_
      refine x_get (v := vA 72) (dA D_X12_goOn 48 rfl) fw_RX12_23 (sO_67 hM2) (congrArg (rfV G) (sR_67_7 hM2)) ?_
      refine x_aload_n (dA D_X12_goOn 49 rfl) rfl ?_
      refine x_get (v := vI (rd M2 67 9)) (dA D_X12_goOn 50 rfl) fw_RX12_188 (sO_67 hM2) rfl ?_
      refine x_iald (dA D_X12_goOn 51 rfl) (sA_72 hM2 h5 h6) ?_
      refine x_callS [vI (rd M2 72 (rd M2 67 9))] [vA 67] (dA D_X12_goOn 52 rfl) cw_RX12_198 rfl rfl (Nat.le_of_ble_eq_true rfl) hd1 (zk k) (zk n) (S_X12_isDigit h7 (by omega) ?_) (kI (fun _ _ h => h))
      show X G Y_X12_goOn d k n 106 [vA 67] [vI (if (48 ≤ (rd M2 72 (rd M2 67 9))) ∧ ((rd M2 72 (rd M2 67 9)) ≤ 57) then 1 else 0), vA 67] M2 Q
      have hJ : X G Y_X12_goOn d k n 114 [vA 67] [vI (if ¬ ((48 ≤ (rd M2 72 (rd M2 67 9))) ∧ ((rd M2 72 (rd M2 67 9)) ≤ 57)) then 3 else 2), vA 67] M2 Q := by
        refine x_put (x := if ¬ ((48 ≤ (rd M2 72 (rd M2 67 9))) ∧ ((rd M2 72 (rd M2 67 9)) ≤ 57)) then 3 else 2) (dA D_X12_goOn 57 rfl) fw_RX12_201 (fun _ _ hc => by cases hc; exact Or.inl rfl) (sO_67 hM2) rfl rfl rfl ?_
        refine x_nmM (fun M12 eM12 => ?_)
        have hM12 : Sh M12 := eM12 ▸ (sW_67_11 hM2)
        have h := h M12 eM12 hM12
        refine x_aload_n (dA D_X12_goOn 58 rfl) rfl ?_
        refine x_get (v := vI (rd M12 67 11)) (dA D_X12_goOn 59 rfl) fw_RX12_201 (sO_67 hM12) rfl ?_
        refine x_iconst (dA D_X12_goOn 60 rfl) ?_
        obtain ⟨h13, h⟩ := h
        refine x_icmp_neP (tgt := 149) (dA D_X12_goOn 61 rfl) (by decide) h13 ⟨by decide, by decide⟩ ⟨fun c => ?_, fun c => ?_⟩
        · have h := h.1 c
          exact h
        · have h := h.2 c
          refine x_aload_n (dA D_X12_goOn 62 rfl) rfl ?_
          refine x_aload_n (dA D_X12_goOn 63 rfl) rfl ?_
          refine x_get (v := vA 72) (dA D_X12_goOn 64 rfl) fw_RX12_23 (sO_67 hM12) (congrArg (rfV G) (sR_67_7 hM12)) ?_
          refine x_aload_n (dA D_X12_goOn 65 rfl) rfl ?_
          refine x_get (v := vI (rd M12 67 9)) (dA D_X12_goOn 66 rfl) fw_RX12_188 (sO_67 hM12) rfl ?_
          obtain ⟨h14, h⟩ := h
          obtain ⟨h15, h⟩ := h
          refine x_iald (dA D_X12_goOn 67 rfl) (sA_72 hM12 h14 h15) ?_
          obtain ⟨h16, h⟩ := h
          refine x_i2l (dA D_X12_goOn 68 rfl) h16 ?_
          refine x_put (x := rd M12 72 (rd M12 67 9)) (dA D_X12_goOn 69 rfl) fw_RX12_191 (fun _ _ hc => by cases hc; exact Or.inl rfl) (sO_67 hM12) rfl rfl rfl ?_
          refine x_nmM (fun M17 eM17 => ?_)
          have hM17 : Sh M17 := eM17 ▸ (sW_67_12 hM12)
          have h := h M17 eM17 hM17
          refine x_aload_n (dA D_X12_goOn 70 rfl) rfl ?_
          refine x_dup (dA D_X12_goOn 71 rfl) rfl ?_
          refine x_get (v := vI (rd M17 67 10)) (dA D_X12_goOn 72 rfl) fw_RX12_178 (sO_67 hM17) rfl ?_
          refine x_iconst (dA D_X12_goOn 73 rfl) ?_
          refine x_iadd (dA D_X12_goOn 74 rfl) ?_
          refine x_put (x := (rd M17 67 10) + 1) (dA D_X12_goOn 75 rfl) fw_RX12_178 (fun _ _ hc => by cases hc; exact Or.inl rfl) (sO_67 hM17) rfl rfl rfl ?_
          refine x_nmM (fun M18 eM18 => ?_)
          have hM18 : Sh M18 := eM18 ▸ (sW_67_10 hM17)
          have h := h M18 eM18 hM18
          exact h
      refine x_if_eqB (tgt := 113) (dA D_X12_goOn 53 rfl) (by decide) ⟨fun c8 => ?_, fun c8 => ?_⟩
      · refine x_iconst (dA D_X12_goOn 56 rfl) ?_
        rw [if_pos c8] at hJ
        exact hJ
      · refine x_iconst (dA D_X12_goOn 54 rfl) ?_
        refine x_goto (tgt := 114) (dA D_X12_goOn 55 rfl) (by decide) ?_
        rw [if_neg (by first | omega | grind)] at hJ
        exact hJ
    · have h := h.2 c
      refine x_iconst (dA D_X12_goOn 45 rfl) ?_
      refine x_goto (tgt := 114) (dA D_X12_goOn 46 rfl) (by decide) ?_
      refine x_put (x := 1) (dA D_X12_goOn 57 rfl) fw_RX12_201 (fun _ _ hc => by cases hc; exact Or.inl rfl) (sO_67 hM2) rfl rfl rfl ?_
      refine x_nmM (fun M19 eM19 => ?_)
      have hM19 : Sh M19 := eM19 ▸ (sW_67_11 hM2)
      have h := h M19 eM19 hM19
      refine x_aload_n (dA D_X12_goOn 58 rfl) rfl ?_
      refine x_get (v := vI (rd M19 67 11)) (dA D_X12_goOn 59 rfl) fw_RX12_201 (sO_67 hM19) rfl ?_
      refine x_iconst (dA D_X12_goOn 60 rfl) ?_
      obtain ⟨h20, h⟩ := h
      refine x_icmp_neP (tgt := 149) (dA D_X12_goOn 61 rfl) (by decide) h20 ⟨by decide, by decide⟩ ⟨fun c => ?_, fun c => ?_⟩
      · have h := h.1 c
        exact h
      · have h := h.2 c
        refine x_aload_n (dA D_X12_goOn 62 rfl) rfl ?_
        refine x_aload_n (dA D_X12_goOn 63 rfl) rfl ?_
        refine x_get (v := vA 72) (dA D_X12_goOn 64 rfl) fw_RX12_23 (sO_67 hM19) (congrArg (rfV G) (sR_67_7 hM19)) ?_
        refine x_aload_n (dA D_X12_goOn 65 rfl) rfl ?_
        refine x_get (v := vI (rd M19 67 9)) (dA D_X12_goOn 66 rfl) fw_RX12_188 (sO_67 hM19) rfl ?_
        obtain ⟨h21, h⟩ := h
        obtain ⟨h22, h⟩ := h
        refine x_iald (dA D_X12_goOn 67 rfl) (sA_72 hM19 h21 h22) ?_
        obtain ⟨h23, h⟩ := h
        refine x_i2l (dA D_X12_goOn 68 rfl) h23 ?_
        refine x_put (x := rd M19 72 (rd M19 67 9)) (dA D_X12_goOn 69 rfl) fw_RX12_191 (fun _ _ hc => by cases hc; exact Or.inl rfl) (sO_67 hM19) rfl rfl rfl ?_
        refine x_nmM (fun M24 eM24 => ?_)
        have hM24 : Sh M24 := eM24 ▸ (sW_67_12 hM19)
        have h := h M24 eM24 hM24
        refine x_aload_n (dA D_X12_goOn 70 rfl) rfl ?_
        refine x_dup (dA D_X12_goOn 71 rfl) rfl ?_
        refine x_get (v := vI (rd M24 67 10)) (dA D_X12_goOn 72 rfl) fw_RX12_178 (sO_67 hM24) rfl ?_
        refine x_iconst (dA D_X12_goOn 73 rfl) ?_
        refine x_iadd (dA D_X12_goOn 74 rfl) ?_
        refine x_put (x := (rd M24 67 10) + 1) (dA D_X12_goOn 75 rfl) fw_RX12_178 (fun _ _ hc => by cases hc; exact Or.inl rfl) (sO_67 hM24) rfl rfl rfl ?_
        refine x_nmM (fun M25 eM25 => ?_)
        have hM25 : Sh M25 := eM25 ▸ (sW_67_10 hM24)
        have h := h M25 eM25 hM25
        exact h
  · have h := h.2 c
    refine x_iconst (dA D_X12_goOn 36 rfl) ?_
    refine x_goto (tgt := 114) (dA D_X12_goOn 37 rfl) (by decide) ?_
    refine x_put (x := 0) (dA D_X12_goOn 57 rfl) fw_RX12_201 (fun _ _ hc => by cases hc; exact Or.inl rfl) (sO_67 hM2) rfl rfl rfl ?_
    refine x_nmM (fun M26 eM26 => ?_)
    have hM26 : Sh M26 := eM26 ▸ (sW_67_11 hM2)
    have h := h M26 eM26 hM26
    refine x_aload_n (dA D_X12_goOn 58 rfl) rfl ?_
    refine x_get (v := vI (rd M26 67 11)) (dA D_X12_goOn 59 rfl) fw_RX12_201 (sO_67 hM26) rfl ?_
    refine x_iconst (dA D_X12_goOn 60 rfl) ?_
    obtain ⟨h27, h⟩ := h
    refine x_icmp_neP (tgt := 149) (dA D_X12_goOn 61 rfl) (by decide) h27 ⟨by decide, by decide⟩ ⟨fun c => ?_, fun c => ?_⟩
    · have h := h.1 c
      exact h
    · have h := h.2 c
      refine x_aload_n (dA D_X12_goOn 62 rfl) rfl ?_
      refine x_aload_n (dA D_X12_goOn 63 rfl) rfl ?_
      refine x_get (v := vA 72) (dA D_X12_goOn 64 rfl) fw_RX12_23 (sO_67 hM26) (congrArg (rfV G) (sR_67_7 hM26)) ?_
      refine x_aload_n (dA D_X12_goOn 65 rfl) rfl ?_
      refine x_get (v := vI (rd M26 67 9)) (dA D_X12_goOn 66 rfl) fw_RX12_188 (sO_67 hM26) rfl ?_
      obtain ⟨h28, h⟩ := h
      obtain ⟨h29, h⟩ := h
      refine x_iald (dA D_X12_goOn 67 rfl) (sA_72 hM26 h28 h29) ?_
      obtain ⟨h30, h⟩ := h
      refine x_i2l (dA D_X12_goOn 68 rfl) h30 ?_
      refine x_put (x := rd M26 72 (rd M26 67 9)) (dA D_X12_goOn 69 rfl) fw_RX12_191 (fun _ _ hc => by cases hc; exact Or.inl rfl) (sO_67 hM26) rfl rfl rfl ?_
      refine x_nmM (fun M31 eM31 => ?_)
      have hM31 : Sh M31 := eM31 ▸ (sW_67_12 hM26)
      have h := h M31 eM31 hM31
      refine x_aload_n (dA D_X12_goOn 70 rfl) rfl ?_
      refine x_dup (dA D_X12_goOn 71 rfl) rfl ?_
      refine x_get (v := vI (rd M31 67 10)) (dA D_X12_goOn 72 rfl) fw_RX12_178 (sO_67 hM31) rfl ?_
      refine x_iconst (dA D_X12_goOn 73 rfl) ?_
      refine x_iadd (dA D_X12_goOn 74 rfl) ?_
      refine x_put (x := (rd M31 67 10) + 1) (dA D_X12_goOn 75 rfl) fw_RX12_178 (fun _ _ hc => by cases hc; exact Or.inl rfl) (sO_67 hM31) rfl rfl rfl ?_
      refine x_nmM (fun M32 eM32 => ?_)
      have hM32 : Sh M32 := eM32 ▸ (sW_67_10 hM31)
      have h := h M32 eM32 hM32
      exact h
set_option maxRecDepth 100000 in
theorem B_X12_goOn_149 {G : GG} {d : Nat} {k n : Nat} {M : MM} {Q : PV → MM → Prop} (hd : 2 ≤ d) (hS : Sh M) (h : inR (rd M 67 11) ∧ inR (rd M 67 10) ∧ inR (rd M 67 8) ∧ (((((rd M 67 11) ≠ 1) ∨ ((rd M 67 8) ≤ (rd M 67 10))) → X G Y_X12_goOn d k n 243 [vA 67] [] M Q) ∧ (¬ (((rd M 67 11) ≠ 1) ∨ ((rd M 67 8) ≤ (rd M 67 10))) → 0 ≤ (rd M 67 10) ∧ (rd M 67 10) < 400 ∧ inR (rd M 72 (rd M 67 10)) ∧ ((¬ ((97 ≤ (rd M 72 (rd M 67 10))) ∧ ((rd M 72 (rd M 67 10)) ≤ 122)) → X G Y_X12_goOn d k n 243 [vA 67] [] M Q) ∧ ((97 ≤ (rd M 72 (rd M 67 10))) ∧ ((rd M 72 (rd M 67 10)) ≤ 122) → inR ((rd M 67 10) - (rd M 67 9)) ∧ ((10 ≤ ((rd M 67 10) - (rd M 67 9)) → ∀ M19, M19 = wr M 67 12 (-1) → Sh M19 → ∀ M20, M20 = wr M19 67 10 ((rd M19 67 10) + 1) → Sh M20 → X G Y_X12_goOn d k n 149 [vA 67] [] M20 Q) ∧ (((rd M 67 10) - (rd M 67 9)) < 10 → ∀ M21, M21 = wr M 67 12 ((((rd M 67 12) * 32) + (rd M 72 (rd M 67 10))) - 96) → Sh M21 → ∀ M22, M22 = wr M21 67 10 ((rd M21 67 10) + 1) → Sh M22 → X G Y_X12_goOn d k n 149 [vA 67] [] M22 Q))))))) : X G Y_X12_goOn d k n 149 [vA 67] [] M Q := by
  have hd1 : 1 ≤ d := by omega
  refine x_aload_n (dA D_X12_goOn 76 rfl) rfl ?_
  refine x_get (v := vI (rd M 67 11)) (dA D_X12_goOn 77 rfl) fw_RX12_201 (sO_67 hS) rfl ?_
  refine x_iconst (dA D_X12_goOn 78 rfl) ?_
  obtain ⟨h2, h⟩ := h
  obtain ⟨h8, h⟩ := h
  obtain ⟨h9, h⟩ := h
  have hA : (((rd M 67 11) ≠ 1) ∨ ((rd M 67 8) ≤ (rd M 67 10))) → X G Y_X12_goOn d k n 243 [vA 67] [] M Q := by
    intro c23
    have h := h.1 c23
    exact h
  have hB : ¬ (((rd M 67 11) ≠ 1) ∨ ((rd M 67 8) ≤ (rd M 67 10))) → X G Y_X12_goOn d k n 168 [vA 67] [] M Q := by
    intro c23
    have h := h.2 c23
    refine x_aload_n (dA D_X12_goOn 85 rfl) rfl ?_
    refine x_get (v := vA 72) (dA D_X12_goOn 86 rfl) fw_RX12_23 (sO_67 hS) (congrArg (rfV G) (sR_67_7 hS)) ?_
    refine x_aload_n (dA D_X12_goOn 87 rfl) rfl ?_
    refine x_get (v := vI (rd M 67 10)) (dA D_X12_goOn 88 rfl) fw_RX12_178 (sO_67 hS) rfl ?_
    obtain ⟨h15, h⟩ := h
    obtain ⟨h16, h⟩ := h
    refine x_iald (dA D_X12_goOn 89 rfl) (sA_72 hS h15 h16) ?_
    obtain ⟨h17, h⟩ := h
    refine x_callS [vI (rd M 72 (rd M 67 10))] [] (dA D_X12_goOn 90 rfl) cw_RX12_195 rfl rfl (Nat.le_of_ble_eq_true rfl) hd1 (zk k) (zk n) (S_X12_isSmall h17 (by omega) ?_) (kI (fun _ _ h => h))
    show X G Y_X12_goOn d k n 180 [vA 67] [vI (if (97 ≤ (rd M 72 (rd M 67 10))) ∧ ((rd M 72 (rd M 67 10)) ≤ 122) then 1 else 0)] M Q
    refine x_if_eqB (tgt := 243) (dA D_X12_goOn 91 rfl) (by decide) ⟨fun c => ?_, fun c => ?_⟩
    · have h := h.1 c
      exact h
    · have h := h.2 c
      refine x_aload_n (dA D_X12_goOn 92 rfl) rfl ?_
      refine x_aload_n (dA D_X12_goOn 93 rfl) rfl ?_
      refine x_get (v := vI (rd M 67 10)) (dA D_X12_goOn 94 rfl) fw_RX12_178 (sO_67 hS) rfl ?_
      refine x_aload_n (dA D_X12_goOn 95 rfl) rfl ?_
      refine x_get (v := vI (rd M 67 9)) (dA D_X12_goOn 96 rfl) fw_RX12_188 (sO_67 hS) rfl ?_
      refine x_isub (dA D_X12_goOn 97 rfl) ?_
      refine x_bipush (dA D_X12_goOn 98 rfl) (by decide) (by decide) ?_
      obtain ⟨h18, h⟩ := h
      refine x_icmp_geP (tgt := 224) (dA D_X12_goOn 99 rfl) (by decide) h18 ⟨by decide, by decide⟩ ⟨fun c => ?_, fun c => ?_⟩
      · have h := h.1 c
        refine x_ldc2 (a := (-1)) (dA D_X12_goOn 114 rfl) kl_RX12_208 (by decide) ?_
        refine x_put (x := (-1)) (dA D_X12_goOn 115 rfl) fw_RX12_191 (fun _ _ hc => by cases hc; exact Or.inl rfl) (sO_67 hS) rfl rfl rfl ?_
        refine x_nmM (fun M19 eM19 => ?_)
        have hM19 : Sh M19 := eM19 ▸ (sW_67_12 hS)
        have h := h M19 eM19 hM19
        refine x_aload_n (dA D_X12_goOn 116 rfl) rfl ?_
        refine x_dup (dA D_X12_goOn 117 rfl) rfl ?_
        refine x_get (v := vI (rd M19 67 10)) (dA D_X12_goOn 118 rfl) fw_RX12_178 (sO_67 hM19) rfl ?_
        refine x_iconst (dA D_X12_goOn 119 rfl) ?_
        refine x_iadd (dA D_X12_goOn 120 rfl) ?_
        refine x_put (x := (rd M19 67 10) + 1) (dA D_X12_goOn 121 rfl) fw_RX12_178 (fun _ _ hc => by cases hc; exact Or.inl rfl) (sO_67 hM19) rfl rfl rfl ?_
        refine x_nmM (fun M20 eM20 => ?_)
        have hM20 : Sh M20 := eM20 ▸ (sW_67_10 hM19)
        have h := h M20 eM20 hM20
        refine x_goto (tgt := 149) (dA D_X12_goOn 122 rfl) (by decide) ?_
        exact h
      · have h := h.2 c
        refine x_aload_n (dA D_X12_goOn 100 rfl) rfl ?_
        refine x_get (v := vL (rd M 67 12)) (dA D_X12_goOn 101 rfl) fw_RX12_191 (sO_67 hS) rfl ?_
        refine x_ldc2 (a := 32) (dA D_X12_goOn 102 rfl) kl_RX12_204 (by decide) ?_
        refine x_lmul (dA D_X12_goOn 103 rfl) ?_
        refine x_aload_n (dA D_X12_goOn 104 rfl) rfl ?_
        refine x_get (v := vA 72) (dA D_X12_goOn 105 rfl) fw_RX12_23 (sO_67 hS) (congrArg (rfV G) (sR_67_7 hS)) ?_
        refine x_aload_n (dA D_X12_goOn 106 rfl) rfl ?_
        refine x_get (v := vI (rd M 67 10)) (dA D_X12_goOn 107 rfl) fw_RX12_178 (sO_67 hS) rfl ?_
        refine x_iald (dA D_X12_goOn 108 rfl) (sA_72 hS h15 h16) ?_
        refine x_i2l (dA D_X12_goOn 109 rfl) h17 ?_
        refine x_ladd (dA D_X12_goOn 110 rfl) ?_
        refine x_ldc2 (a := 96) (dA D_X12_goOn 111 rfl) kl_RX12_206 (by decide) ?_
        refine x_lsub (dA D_X12_goOn 112 rfl) ?_
        refine x_goto (tgt := 227) (dA D_X12_goOn 113 rfl) (by decide) ?_
        refine x_put (x := (((rd M 67 12) * 32) + (rd M 72 (rd M 67 10))) - 96) (dA D_X12_goOn 115 rfl) fw_RX12_191 (fun _ _ hc => by cases hc; exact Or.inl rfl) (sO_67 hS) rfl rfl rfl ?_
        refine x_nmM (fun M21 eM21 => ?_)
        have hM21 : Sh M21 := eM21 ▸ (sW_67_12 hS)
        have h := h M21 eM21 hM21
        refine x_aload_n (dA D_X12_goOn 116 rfl) rfl ?_
        refine x_dup (dA D_X12_goOn 117 rfl) rfl ?_
        refine x_get (v := vI (rd M21 67 10)) (dA D_X12_goOn 118 rfl) fw_RX12_178 (sO_67 hM21) rfl ?_
        refine x_iconst (dA D_X12_goOn 119 rfl) ?_
        refine x_iadd (dA D_X12_goOn 120 rfl) ?_
        refine x_put (x := (rd M21 67 10) + 1) (dA D_X12_goOn 121 rfl) fw_RX12_178 (fun _ _ hc => by cases hc; exact Or.inl rfl) (sO_67 hM21) rfl rfl rfl ?_
        refine x_nmM (fun M22 eM22 => ?_)
        have hM22 : Sh M22 := eM22 ▸ (sW_67_10 hM21)
        have h := h M22 eM22 hM22
        refine x_goto (tgt := 149) (dA D_X12_goOn 122 rfl) (by decide) ?_
        exact h
  refine x_icmp_neP (tgt := 243) (dA D_X12_goOn 79 rfl) (by decide) h2 ⟨by decide, by decide⟩ ⟨fun c1 => ?_, fun c1 => ?_⟩
  · exact hA (by first | omega | grind)
  · refine x_aload_n (dA D_X12_goOn 80 rfl) rfl ?_
    refine x_get (v := vI (rd M 67 10)) (dA D_X12_goOn 81 rfl) fw_RX12_178 (sO_67 hS) rfl ?_
    refine x_aload_n (dA D_X12_goOn 82 rfl) rfl ?_
    refine x_get (v := vI (rd M 67 8)) (dA D_X12_goOn 83 rfl) fw_RX12_168 (sO_67 hS) rfl ?_
    refine x_icmp_geP (tgt := 243) (dA D_X12_goOn 84 rfl) (by decide) h8 h9 ⟨fun c7 => ?_, fun c7 => ?_⟩
    · exact hA (by first | omega | grind)
    · exact hB (by first | omega | grind)
set_option maxRecDepth 100000 in
theorem B_X12_goOn_243 {G : GG} {d : Nat} {k n : Nat} {M : MM} {Q : PV → MM → Prop} (hd : 2 ≤ d) (hS : Sh M) (h : inR (rd M 67 11) ∧ inR (rd M 67 10) ∧ inR (rd M 67 8) ∧ (((((rd M 67 11) ≠ 2) ∨ ((rd M 67 8) ≤ (rd M 67 10))) → Q vU M) ∧ (¬ (((rd M 67 11) ≠ 2) ∨ ((rd M 67 8) ≤ (rd M 67 10))) → 0 ≤ (rd M 67 10) ∧ (rd M 67 10) < 400 ∧ inR (rd M 72 (rd M 67 10)) ∧ ((¬ ((48 ≤ (rd M 72 (rd M 67 10))) ∧ ((rd M 72 (rd M 67 10)) ≤ 57)) → Q vU M) ∧ ((48 ≤ (rd M 72 (rd M 67 10))) ∧ ((rd M 72 (rd M 67 10)) ≤ 57) → inL (rd M 67 12) ∧ (((rd M 67 12) ≤ 1000000 → ∀ M19, M19 = wr M 67 12 ((((rd M 67 12) * 10) + (rd M 72 (rd M 67 10))) - 48) → Sh M19 → ∀ M20, M20 = wr M19 67 10 ((rd M19 67 10) + 1) → Sh M20 → X G Y_X12_goOn d k n 243 [vA 67] [] M20 Q) ∧ (1000000 < (rd M 67 12) → ∀ M21, M21 = wr M 67 12 (rd M 67 12) → Sh M21 → ∀ M22, M22 = wr M21 67 10 ((rd M21 67 10) + 1) → Sh M22 → X G Y_X12_goOn d k n 243 [vA 67] [] M22 Q))))))) : X G Y_X12_goOn d k n 243 [vA 67] [] M Q := by
  have hd1 : 1 ≤ d := by omega
  refine x_aload_n (dA D_X12_goOn 123 rfl) rfl ?_
  refine x_get (v := vI (rd M 67 11)) (dA D_X12_goOn 124 rfl) fw_RX12_201 (sO_67 hS) rfl ?_
  refine x_iconst (dA D_X12_goOn 125 rfl) ?_
  obtain ⟨h2, h⟩ := h
  obtain ⟨h8, h⟩ := h
  obtain ⟨h9, h⟩ := h
  have hA : (((rd M 67 11) ≠ 2) ∨ ((rd M 67 8) ≤ (rd M 67 10))) → X G Y_X12_goOn d k n 335 [vA 67] [] M Q := by
    intro c23
    have h := h.1 c23
    exact x_return (dA D_X12_goOn 169 rfl) rfl h
  have hB : ¬ (((rd M 67 11) ≠ 2) ∨ ((rd M 67 8) ≤ (rd M 67 10))) → X G Y_X12_goOn d k n 262 [vA 67] [] M Q := by
    intro c23
    have h := h.2 c23
    refine x_aload_n (dA D_X12_goOn 132 rfl) rfl ?_
    refine x_get (v := vA 72) (dA D_X12_goOn 133 rfl) fw_RX12_23 (sO_67 hS) (congrArg (rfV G) (sR_67_7 hS)) ?_
    refine x_aload_n (dA D_X12_goOn 134 rfl) rfl ?_
    refine x_get (v := vI (rd M 67 10)) (dA D_X12_goOn 135 rfl) fw_RX12_178 (sO_67 hS) rfl ?_
    obtain ⟨h15, h⟩ := h
    obtain ⟨h16, h⟩ := h
    refine x_iald (dA D_X12_goOn 136 rfl) (sA_72 hS h15 h16) ?_
    obtain ⟨h17, h⟩ := h
    refine x_callS [vI (rd M 72 (rd M 67 10))] [] (dA D_X12_goOn 137 rfl) cw_RX12_198 rfl rfl (Nat.le_of_ble_eq_true rfl) hd1 (zk k) (zk n) (S_X12_isDigit h17 (by omega) ?_) (kI (fun _ _ h => h))
    show X G Y_X12_goOn d k n 274 [vA 67] [vI (if (48 ≤ (rd M 72 (rd M 67 10))) ∧ ((rd M 72 (rd M 67 10)) ≤ 57) then 1 else 0)] M Q
    refine x_if_eqB (tgt := 335) (dA D_X12_goOn 138 rfl) (by decide) ⟨fun c => ?_, fun c => ?_⟩
    · have h := h.1 c
      exact x_return (dA D_X12_goOn 169 rfl) rfl h
    · have h := h.2 c
      refine x_aload_n (dA D_X12_goOn 139 rfl) rfl ?_
      refine x_aload_n (dA D_X12_goOn 140 rfl) rfl ?_
      refine x_get (v := vL (rd M 67 12)) (dA D_X12_goOn 141 rfl) fw_RX12_191 (sO_67 hS) rfl ?_
      refine x_ldc2 (a := 1000000) (dA D_X12_goOn 142 rfl) kl_RX12_210 (by decide) ?_
      obtain ⟨h18, h⟩ := h
      refine x_lcmp_leP (tgt := 296) (dA D_X12_goOn 143 rfl) (dA D_X12_goOn 144 rfl) (by decide) h18 ⟨by decide, by decide⟩ ⟨fun c => ?_, fun c => ?_⟩
      · have h := h.1 c
        refine x_aload_n (dA D_X12_goOn 148 rfl) rfl ?_
        refine x_get (v := vL (rd M 67 12)) (dA D_X12_goOn 149 rfl) fw_RX12_191 (sO_67 hS) rfl ?_
        refine x_ldc2 (a := 10) (dA D_X12_goOn 150 rfl) kl_RX12_212 (by decide) ?_
        refine x_lmul (dA D_X12_goOn 151 rfl) ?_
        refine x_aload_n (dA D_X12_goOn 152 rfl) rfl ?_
        refine x_get (v := vA 72) (dA D_X12_goOn 153 rfl) fw_RX12_23 (sO_67 hS) (congrArg (rfV G) (sR_67_7 hS)) ?_
        refine x_aload_n (dA D_X12_goOn 154 rfl) rfl ?_
        refine x_get (v := vI (rd M 67 10)) (dA D_X12_goOn 155 rfl) fw_RX12_178 (sO_67 hS) rfl ?_
        refine x_iald (dA D_X12_goOn 156 rfl) (sA_72 hS h15 h16) ?_
        refine x_i2l (dA D_X12_goOn 157 rfl) h17 ?_
        refine x_ladd (dA D_X12_goOn 158 rfl) ?_
        refine x_ldc2 (a := 48) (dA D_X12_goOn 159 rfl) kl_RX12_214 (by decide) ?_
        refine x_lsub (dA D_X12_goOn 160 rfl) ?_
        refine x_put (x := (((rd M 67 12) * 10) + (rd M 72 (rd M 67 10))) - 48) (dA D_X12_goOn 161 rfl) fw_RX12_191 (fun _ _ hc => by cases hc; exact Or.inl rfl) (sO_67 hS) rfl rfl rfl ?_
        refine x_nmM (fun M19 eM19 => ?_)
        have hM19 : Sh M19 := eM19 ▸ (sW_67_12 hS)
        have h := h M19 eM19 hM19
        refine x_aload_n (dA D_X12_goOn 162 rfl) rfl ?_
        refine x_dup (dA D_X12_goOn 163 rfl) rfl ?_
        refine x_get (v := vI (rd M19 67 10)) (dA D_X12_goOn 164 rfl) fw_RX12_178 (sO_67 hM19) rfl ?_
        refine x_iconst (dA D_X12_goOn 165 rfl) ?_
        refine x_iadd (dA D_X12_goOn 166 rfl) ?_
        refine x_put (x := (rd M19 67 10) + 1) (dA D_X12_goOn 167 rfl) fw_RX12_178 (fun _ _ hc => by cases hc; exact Or.inl rfl) (sO_67 hM19) rfl rfl rfl ?_
        refine x_nmM (fun M20 eM20 => ?_)
        have hM20 : Sh M20 := eM20 ▸ (sW_67_10 hM19)
        have h := h M20 eM20 hM20
        refine x_goto (tgt := 243) (dA D_X12_goOn 168 rfl) (by decide) ?_
        exact h
      · have h := h.2 c
        refine x_aload_n (dA D_X12_goOn 145 rfl) rfl ?_
        refine x_get (v := vL (rd M 67 12)) (dA D_X12_goOn 146 rfl) fw_RX12_191 (sO_67 hS) rfl ?_
        refine x_goto (tgt := 319) (dA D_X12_goOn 147 rfl) (by decide) ?_
        refine x_put (x := rd M 67 12) (dA D_X12_goOn 161 rfl) fw_RX12_191 (fun _ _ hc => by cases hc; exact Or.inl rfl) (sO_67 hS) rfl rfl rfl ?_
        refine x_nmM (fun M21 eM21 => ?_)
        have hM21 : Sh M21 := eM21 ▸ (sW_67_12 hS)
        have h := h M21 eM21 hM21
        refine x_aload_n (dA D_X12_goOn 162 rfl) rfl ?_
        refine x_dup (dA D_X12_goOn 163 rfl) rfl ?_
        refine x_get (v := vI (rd M21 67 10)) (dA D_X12_goOn 164 rfl) fw_RX12_178 (sO_67 hM21) rfl ?_
        refine x_iconst (dA D_X12_goOn 165 rfl) ?_
        refine x_iadd (dA D_X12_goOn 166 rfl) ?_
        refine x_put (x := (rd M21 67 10) + 1) (dA D_X12_goOn 167 rfl) fw_RX12_178 (fun _ _ hc => by cases hc; exact Or.inl rfl) (sO_67 hM21) rfl rfl rfl ?_
        refine x_nmM (fun M22 eM22 => ?_)
        have hM22 : Sh M22 := eM22 ▸ (sW_67_10 hM21)
        have h := h M22 eM22 hM22
        refine x_goto (tgt := 243) (dA D_X12_goOn 168 rfl) (by decide) ?_
        exact h
  refine x_icmp_neP (tgt := 335) (dA D_X12_goOn 126 rfl) (by decide) h2 ⟨by decide, by decide⟩ ⟨fun c1 => ?_, fun c1 => ?_⟩
  · exact hA (by first | omega | grind)
  · refine x_aload_n (dA D_X12_goOn 127 rfl) rfl ?_
    refine x_get (v := vI (rd M 67 10)) (dA D_X12_goOn 128 rfl) fw_RX12_178 (sO_67 hS) rfl ?_
    refine x_aload_n (dA D_X12_goOn 129 rfl) rfl ?_
    refine x_get (v := vI (rd M 67 8)) (dA D_X12_goOn 130 rfl) fw_RX12_168 (sO_67 hS) rfl ?_
    refine x_icmp_geP (tgt := 335) (dA D_X12_goOn 131 rfl) (by decide) h8 h9 ⟨fun c7 => ?_, fun c7 => ?_⟩
    · exact hA (by first | omega | grind)
    · exact hB (by first | omega | grind)
set_option maxRecDepth 100000 in
theorem B_X12_must_0 {G : GG} {d : Nat} {k n : Nat} {x1 : Int} {M : MM} {Q : PV → MM → Prop} (hd : 2 ≤ d) (hS : Sh M) (h : inR (rd M 67 14) ∧ inR x1 ∧ (((((rd M 67 14) ≠ 0) ∨ (x1 ≠ 0)) → (((rd M 67 14) ≠ 0 → Q vU M) ∧ ((rd M 67 14) = 0 → C G Y_X12_goOn (d - 1) 0 0 [vA 67] M (rU (fun M9 => Sh M9 ∧ Q vU M9))))) ∧ (¬ (((rd M 67 14) ≠ 0) ∨ (x1 ≠ 0)) → ∀ M10, M10 = wr M 67 14 1 → Sh M10 → ∀ M11, M11 = wr M10 67 13 (rd M10 67 9) → Sh M11 → inR (rd M11 67 14) ∧ (((rd M11 67 14) ≠ 0 → Q vU M11) ∧ ((rd M11 67 14) = 0 → C G Y_X12_goOn (d - 1) 0 0 [vA 67] M11 (rU (fun M13 => Sh M13 ∧ Q vU M13))))))) : X G Y_X12_must d k n 0 [vA 67, vI x1] [] M Q := by
  have hd1 : 1 ≤ d := by omega
  refine x_aload_n (dA D_X12_must 0 rfl) rfl ?_
  refine x_get (v := vI (rd M 67 14)) (dA D_X12_must 1 rfl) fw_RX12_181 (sO_67 hS) rfl ?_
  obtain ⟨h2, h⟩ := h
  obtain ⟨h5, h⟩ := h
  have hA : (((rd M 67 14) ≠ 0) ∨ (x1 ≠ 0)) → X G Y_X12_must d k n 24 [vA 67, vI x1] [] M Q := by
    intro c14
    have h := h.1 c14
    refine x_aload_n (dA D_X12_must 12 rfl) rfl ?_
    refine x_get (v := vI (rd M 67 14)) (dA D_X12_must 13 rfl) fw_RX12_181 (sO_67 hS) rfl ?_
    refine x_if_neP (tgt := 35) (dA D_X12_must 14 rfl) (by decide) h2 ⟨fun c => ?_, fun c => ?_⟩
    · have h := h.1 c
      exact x_return (dA D_X12_must 17 rfl) rfl h
    · have h := h.2 c
      refine x_aload_n (dA D_X12_must 15 rfl) rfl ?_
      refine x_callV 11 [] [] (dA D_X12_must 16 rfl) cw_RX12_185 rfl rfl (Nat.le_of_ble_eq_true rfl) (by decide) rfl hd1 (zk k) (zk n) (sO_67 hS) h (kU (fun M9 h => ?_))
      obtain ⟨hM9, h⟩ := h
      exact x_return (dA D_X12_must 17 rfl) rfl h
  have hB : ¬ (((rd M 67 14) ≠ 0) ∨ (x1 ≠ 0)) → X G Y_X12_must d k n 11 [vA 67, vI x1] [] M Q := by
    intro c14
    have h := h.2 c14
    refine x_aload_n (dA D_X12_must 5 rfl) rfl ?_
    refine x_iconst (dA D_X12_must 6 rfl) ?_
    refine x_put (x := 1) (dA D_X12_must 7 rfl) fw_RX12_181 (fun _ _ hc => by cases hc; exact Or.inl rfl) (sO_67 hS) rfl (z_nar (by decide)) (z_fit (by decide)) ?_
    refine x_nmM (fun M10 eM10 => ?_)
    have hM10 : Sh M10 := eM10 ▸ (sW_67_14 hS)
    have h := h M10 eM10 hM10
    refine x_aload_n (dA D_X12_must 8 rfl) rfl ?_
    refine x_aload_n (dA D_X12_must 9 rfl) rfl ?_
    refine x_get (v := vI (rd M10 67 9)) (dA D_X12_must 10 rfl) fw_RX12_188 (sO_67 hM10) rfl ?_
    refine x_put (x := rd M10 67 9) (dA D_X12_must 11 rfl) fw_RX12_26 (fun _ _ hc => by cases hc; exact Or.inl rfl) (sO_67 hM10) rfl rfl rfl ?_
    refine x_nmM (fun M11 eM11 => ?_)
    have hM11 : Sh M11 := eM11 ▸ (sW_67_13 hM10)
    have h := h M11 eM11 hM11
    refine x_aload_n (dA D_X12_must 12 rfl) rfl ?_
    refine x_get (v := vI (rd M11 67 14)) (dA D_X12_must 13 rfl) fw_RX12_181 (sO_67 hM11) rfl ?_
    obtain ⟨h12, h⟩ := h
    refine x_if_neP (tgt := 35) (dA D_X12_must 14 rfl) (by decide) h12 ⟨fun c => ?_, fun c => ?_⟩
    · have h := h.1 c
      exact x_return (dA D_X12_must 17 rfl) rfl h
    · have h := h.2 c
      refine x_aload_n (dA D_X12_must 15 rfl) rfl ?_
      refine x_callV 11 [] [] (dA D_X12_must 16 rfl) cw_RX12_185 rfl rfl (Nat.le_of_ble_eq_true rfl) (by decide) rfl hd1 (zk k) (zk n) (sO_67 hM11) h (kU (fun M13 h => ?_))
      obtain ⟨hM13, h⟩ := h
      exact x_return (dA D_X12_must 17 rfl) rfl h
  refine x_if_neP (tgt := 24) (dA D_X12_must 2 rfl) (by decide) h2 ⟨fun c1 => ?_, fun c1 => ?_⟩
  · exact hA (by first | omega | grind)
  · refine x_iload_n (dA D_X12_must 3 rfl) rfl ?_
    refine x_if_neP (tgt := 24) (dA D_X12_must 4 rfl) (by decide) h5 ⟨fun c4 => ?_, fun c4 => ?_⟩
    · exact hA (by first | omega | grind)
    · exact hB (by first | omega | grind)
theorem C_X12_must {G : GG} {d : Nat} {x1 : Int} {M : MM} {Q : PV → MM → Prop} (h : X G Y_X12_must d 0 0 0 [vA 67, vI x1] [] M Q) : C G Y_X12_must d 0 0 [vA 67, vI x1] M Q := X.entry (by decide) (Nat.le_of_ble_eq_true rfl) rfl rfl rfl h
set_option maxRecDepth 100000 in
theorem B_X12_begin_0 {G : GG} {d : Nat} {k n : Nat} {M : MM} {Q : PV → MM → Prop} (hd : 2 ≤ d) (hS : Sh M) (h : ∀ M1, M1 = wr M 67 10 0 → Sh M1 → ∀ M2, M2 = wr M1 67 14 0 → Sh M2 → ∀ M3, M3 = wr M2 67 13 (-1) → Sh M3 → C G Y_X12_goOn (d - 1) 0 0 [vA 67] M3 (rU (fun M4 => Sh M4 ∧ Q vU M4))) : X G Y_X12_begin d k n 0 [vA 67] [] M Q := by
  have hd1 : 1 ≤ d := by omega
  refine x_aload_n (dA D_X12_begin 0 rfl) rfl ?_
  refine x_iconst (dA D_X12_begin 1 rfl) ?_
  refine x_put (x := 0) (dA D_X12_begin 2 rfl) fw_RX12_178 (fun _ _ hc => by cases hc; exact Or.inl rfl) (sO_67 hS) rfl rfl rfl ?_
  refine x_nmM (fun M1 eM1 => ?_)
  have hM1 : Sh M1 := eM1 ▸ (sW_67_10 hS)
  have h := h M1 eM1 hM1
  refine x_aload_n (dA D_X12_begin 3 rfl) rfl ?_
  refine x_iconst (dA D_X12_begin 4 rfl) ?_
  refine x_put (x := 0) (dA D_X12_begin 5 rfl) fw_RX12_181 (fun _ _ hc => by cases hc; exact Or.inl rfl) (sO_67 hM1) rfl (z_nar (by decide)) (z_fit (by decide)) ?_
  refine x_nmM (fun M2 eM2 => ?_)
  have hM2 : Sh M2 := eM2 ▸ (sW_67_14 hM1)
  have h := h M2 eM2 hM2
  refine x_aload_n (dA D_X12_begin 6 rfl) rfl ?_
  refine x_iconst (dA D_X12_begin 7 rfl) ?_
  refine x_put (x := (-1)) (dA D_X12_begin 8 rfl) fw_RX12_26 (fun _ _ hc => by cases hc; exact Or.inl rfl) (sO_67 hM2) rfl rfl rfl ?_
  refine x_nmM (fun M3 eM3 => ?_)
  have hM3 : Sh M3 := eM3 ▸ (sW_67_13 hM2)
  have h := h M3 eM3 hM3
  refine x_aload_n (dA D_X12_begin 9 rfl) rfl ?_
  refine x_callV 11 [] [] (dA D_X12_begin 10 rfl) cw_RX12_185 rfl rfl (Nat.le_of_ble_eq_true rfl) (by decide) rfl hd1 (zk k) (zk n) (sO_67 hM3) h (kU (fun M4 h => ?_))
  obtain ⟨hM4, h⟩ := h
  exact x_return (dA D_X12_begin 11 rfl) rfl h
theorem C_X12_begin {G : GG} {d : Nat} {M : MM} {Q : PV → MM → Prop} (h : X G Y_X12_begin d 0 0 0 [vA 67] [] M Q) : C G Y_X12_begin d 0 0 [vA 67] M Q := X.entry (by decide) (Nat.le_of_ble_eq_true rfl) rfl rfl rfl h
set_option maxRecDepth 100000 in
theorem B_X12_settle_0 {G : GG} {d : Nat} {k n : Nat} {x1 : Int} {M : MM} {Q : PV → MM → Prop} (hd : 2 ≤ d) (hS : Sh M) (h : inR (rd M 67 23) ∧ (((rd M 67 23) ≤ 0 → Q vU M) ∧ (0 < (rd M 67 23) → 0 ≤ ((rd M 67 23) - 1) ∧ ((rd M 67 23) - 1) < 400 ∧ inR (rd M 76 ((rd M 67 23) - 1)) ∧ inR (if (rd M 76 ((rd M 67 23) - 1)) < 30 then (if (rd M 76 ((rd M 67 23) - 1)) ≠ 29 then (if (rd M 76 ((rd M 67 23) - 1)) ≠ 28 then (if (rd M 76 ((rd M 67 23) - 1)) ≠ 27 then (if (rd M 76 ((rd M 67 23) - 1)) < 24 then (if (rd M 76 ((rd M 67 23) - 1)) < 22 then 5 else 6) else 4) else 3) else 2) else 1) else 0) ∧ inR x1 ∧ (((if (rd M 76 ((rd M 67 23) - 1)) < 30 then (if (rd M 76 ((rd M 67 23) - 1)) ≠ 29 then (if (rd M 76 ((rd M 67 23) - 1)) ≠ 28 then (if (rd M 76 ((rd M 67 23) - 1)) ≠ 27 then (if (rd M 76 ((rd M 67 23) - 1)) < 24 then (if (rd M 76 ((rd M 67 23) - 1)) < 22 then 5 else 6) else 4) else 3) else 2) else 1) else 0) < x1 → Q vU M) ∧ (x1 ≤ (if (rd M 76 ((rd M 67 23) - 1)) < 30 then (if (rd M 76 ((rd M 67 23) - 1)) ≠ 29 then (if (rd M 76 ((rd M 67 23) - 1)) ≠ 28 then (if (rd M 76 ((rd M 67 23) - 1)) ≠ 27 then (if (rd M 76 ((rd M 67 23) - 1)) < 24 then (if (rd M 76 ((rd M 67 23) - 1)) < 22 then 5 else 6) else 4) else 3) else 2) else 1) else 0) → ∀ M7, M7 = wr M 67 23 ((rd M 67 23) - 1) → Sh M7 → 0 ≤ (rd M7 67 23) ∧ (rd M7 67 23) < 400 ∧ inR (rd M7 76 (rd M7 67 23)) ∧ (((rd M7 76 (rd M7 67 23)) = 28 → 0 ≤ (rd M7 77 (rd M7 67 23)) ∧ (rd M7 77 (rd M7 67 23)) < 400 ∧ ∀ M13, M13 = wr M7 75 (rd M7 77 (rd M7 67 23)) (rd M7 67 17) → Sh M13 → X G Y_X12_settle d k n 0 [vA 67, vI x1] [] M13 Q) ∧ ((rd M7 76 (rd M7 67 23)) ≠ 28 → (((rd M7 76 (rd M7 67 23)) ≠ 29 → C G Y_X12_emit (d - 1) 0 0 [vA 67, vI (rd M7 76 (rd M7 67 23)), vI 0] M7 (rU (fun M14 => Sh M14 ∧ X G Y_X12_settle d k n 0 [vA 67, vI x1] [] M14 Q))) ∧ ((rd M7 76 (rd M7 67 23)) = 29 → 0 ≤ (rd M7 77 (rd M7 67 23)) ∧ (rd M7 77 (rd M7 67 23)) < 400 ∧ ∀ M17, M17 = wr M7 75 (rd M7 77 (rd M7 67 23)) (rd M7 67 17) → Sh M17 → X G Y_X12_settle d k n 0 [vA 67, vI x1] [] M17 Q))))))))) : X G Y_X12_settle d k n 0 [vA 67, vI x1] [] M Q := by
  have hd1 : 1 ≤ d := by omega
  refine x_aload_n (dA D_X12_settle 0 rfl) rfl ?_
  refine x_get (v := vI (rd M 67 23)) (dA D_X12_settle 1 rfl) fw_RX12_223 (sO_67 hS) rfl ?_
  obtain ⟨h1, h⟩ := h
  refine x_if_leP (tgt := 101) (dA D_X12_settle 2 rfl) (by decide) h1 ⟨fun c => ?_, fun c => ?_⟩
  · have h := h.1 c
    exact x_return (dA D_X12_settle 53 rfl) rfl h
  · have h := h.2 c
    refine x_aload_n (dA D_X12_settle 3 rfl) rfl ?_
    refine x_get (v := vA 76) (dA D_X12_settle 4 rfl) fw_RX12_39 (sO_67 hS) (congrArg (rfV G) (sR_67_21 hS)) ?_
    refine x_aload_n (dA D_X12_settle 5 rfl) rfl ?_
    refine x_get (v := vI (rd M 67 23)) (dA D_X12_settle 6 rfl) fw_RX12_223 (sO_67 hS) rfl ?_
    refine x_iconst (dA D_X12_settle 7 rfl) ?_
    refine x_isub (dA D_X12_settle 8 rfl) ?_
    obtain ⟨h2, h⟩ := h
    obtain ⟨h3, h⟩ := h
    refine x_iald (dA D_X12_settle 9 rfl) (sA_76 hS h2 h3) ?_
    obtain ⟨h4, h⟩ := h
    refine x_callS [vI (rd M 76 ((rd M 67 23) - 1))] [] (dA D_X12_settle 10 rfl) cw_RX12_226 rfl rfl (Nat.le_of_ble_eq_true rfl) hd1 (zk k) (zk n) (S_X12_binds h4 (by omega) ?_) (kI (fun _ _ h => h))
    show X G Y_X12_settle d k n 21 [vA 67, vI x1] [vI (if (rd M 76 ((rd M 67 23) - 1)) < 30 then (if (rd M 76 ((rd M 67 23) - 1)) ≠ 29 then (if (rd M 76 ((rd M 67 23) - 1)) ≠ 28 then (if (rd M 76 ((rd M 67 23) - 1)) ≠ 27 then (if (rd M 76 ((rd M 67 23) - 1)) < 24 then (if (rd M 76 ((rd M 67 23) - 1)) < 22 then 5 else 6) else 4) else 3) else 2) else 1) else 0)] M Q
    refine x_iload_n (dA D_X12_settle 11 rfl) rfl ?_
    obtain ⟨h5, h⟩ := h
    obtain ⟨h6, h⟩ := h
    refine x_icmp_ltP (tgt := 101) (dA D_X12_settle 12 rfl) (by decide) h5 h6 ⟨fun c => ?_, fun c => ?_⟩
    · have h := h.1 c
      exact x_return (dA D_X12_settle 53 rfl) rfl h
    · have h := h.2 c
      refine x_aload_n (dA D_X12_settle 13 rfl) rfl ?_
      refine x_dup (dA D_X12_settle 14 rfl) rfl ?_
      refine x_get (v := vI (rd M 67 23)) (dA D_X12_settle 15 rfl) fw_RX12_223 (sO_67 hS) rfl ?_
      refine x_iconst (dA D_X12_settle 16 rfl) ?_
      refine x_isub (dA D_X12_settle 17 rfl) ?_
      refine x_put (x := (rd M 67 23) - 1) (dA D_X12_settle 18 rfl) fw_RX12_223 (fun _ _ hc => by cases hc; exact Or.inl rfl) (sO_67 hS) rfl rfl rfl ?_
      refine x_nmM (fun M7 eM7 => ?_)
      have hM7 : Sh M7 := eM7 ▸ (sW_67_23 hS)
      have h := h M7 eM7 hM7
      refine x_aload_n (dA D_X12_settle 19 rfl) rfl ?_
      refine x_get (v := vA 76) (dA D_X12_settle 20 rfl) fw_RX12_39 (sO_67 hM7) (congrArg (rfV G) (sR_67_21 hM7)) ?_
      refine x_aload_n (dA D_X12_settle 21 rfl) rfl ?_
      refine x_get (v := vI (rd M7 67 23)) (dA D_X12_settle 22 rfl) fw_RX12_223 (sO_67 hM7) rfl ?_
      obtain ⟨h8, h⟩ := h
      obtain ⟨h9, h⟩ := h
      refine x_iald (dA D_X12_settle 23 rfl) (sA_76 hM7 h8 h9) ?_
      refine x_bipush (dA D_X12_settle 24 rfl) (by decide) (by decide) ?_
      obtain ⟨h10, h⟩ := h
      refine x_icmp_eqP (tgt := 63) (dA D_X12_settle 25 rfl) (by decide) h10 ⟨by decide, by decide⟩ ⟨fun c => ?_, fun c => ?_⟩
      · have h := h.1 c
        refine x_aload_n (dA D_X12_settle 33 rfl) rfl ?_
        refine x_get (v := vA 75) (dA D_X12_settle 34 rfl) fw_RX12_36 (sO_67 hM7) (congrArg (rfV G) (sR_67_19 hM7)) ?_
        refine x_aload_n (dA D_X12_settle 35 rfl) rfl ?_
        refine x_get (v := vA 77) (dA D_X12_settle 36 rfl) fw_RX12_42 (sO_67 hM7) (congrArg (rfV G) (sR_67_22 hM7)) ?_
        refine x_aload_n (dA D_X12_settle 37 rfl) rfl ?_
        refine x_get (v := vI (rd M7 67 23)) (dA D_X12_settle 38 rfl) fw_RX12_223 (sO_67 hM7) rfl ?_
        refine x_iald (dA D_X12_settle 39 rfl) (sA_77 hM7 h8 h9) ?_
        refine x_aload_n (dA D_X12_settle 40 rfl) rfl ?_
        refine x_get (v := vI (rd M7 67 17)) (dA D_X12_settle 41 rfl) fw_RX12_220 (sO_67 hM7) rfl ?_
        obtain ⟨h11, h⟩ := h
        obtain ⟨h12, h⟩ := h
        refine x_iast (dA D_X12_settle 42 rfl) (sA_75 hM7 h11 h12) ?_
        refine x_nmM (fun M13 eM13 => ?_)
        have hM13 : Sh M13 := eM13 ▸ (sW_75 hM7)
        have h := h M13 eM13 hM13
        refine x_goto (tgt := 0) (dA D_X12_settle 43 rfl) (by decide) ?_
        exact h
      · have h := h.2 c
        refine x_aload_n (dA D_X12_settle 26 rfl) rfl ?_
        refine x_get (v := vA 76) (dA D_X12_settle 27 rfl) fw_RX12_39 (sO_67 hM7) (congrArg (rfV G) (sR_67_21 hM7)) ?_
        refine x_aload_n (dA D_X12_settle 28 rfl) rfl ?_
        refine x_get (v := vI (rd M7 67 23)) (dA D_X12_settle 29 rfl) fw_RX12_223 (sO_67 hM7) rfl ?_
        refine x_iald (dA D_X12_settle 30 rfl) (sA_76 hM7 h8 h9) ?_
        refine x_bipush (dA D_X12_settle 31 rfl) (by decide) (by decide) ?_
        refine x_icmp_neP (tgt := 84) (dA D_X12_settle 32 rfl) (by decide) h10 ⟨by decide, by decide⟩ ⟨fun c => ?_, fun c => ?_⟩
        · have h := h.1 c
          refine x_aload_n (dA D_X12_settle 44 rfl) rfl ?_
          refine x_aload_n (dA D_X12_settle 45 rfl) rfl ?_
          refine x_get (v := vA 76) (dA D_X12_settle 46 rfl) fw_RX12_39 (sO_67 hM7) (congrArg (rfV G) (sR_67_21 hM7)) ?_
          refine x_aload_n (dA D_X12_settle 47 rfl) rfl ?_
          refine x_get (v := vI (rd M7 67 23)) (dA D_X12_settle 48 rfl) fw_RX12_223 (sO_67 hM7) rfl ?_
          refine x_iald (dA D_X12_settle 49 rfl) (sA_76 hM7 h8 h9) ?_
          refine x_iconst (dA D_X12_settle 50 rfl) ?_
          refine x_callV 11 [vI (rd M7 76 (rd M7 67 23)), vI 0] [] (dA D_X12_settle 51 rfl) cw_RX12_229 rfl rfl (Nat.le_of_ble_eq_true rfl) (by decide) rfl hd1 (zk k) (zk n) (sO_67 hM7) h (kU (fun M14 h => ?_))
          obtain ⟨hM14, h⟩ := h
          refine x_goto (tgt := 0) (dA D_X12_settle 52 rfl) (by decide) ?_
          exact h
        · have h := h.2 c
          refine x_aload_n (dA D_X12_settle 33 rfl) rfl ?_
          refine x_get (v := vA 75) (dA D_X12_settle 34 rfl) fw_RX12_36 (sO_67 hM7) (congrArg (rfV G) (sR_67_19 hM7)) ?_
          refine x_aload_n (dA D_X12_settle 35 rfl) rfl ?_
          refine x_get (v := vA 77) (dA D_X12_settle 36 rfl) fw_RX12_42 (sO_67 hM7) (congrArg (rfV G) (sR_67_22 hM7)) ?_
          refine x_aload_n (dA D_X12_settle 37 rfl) rfl ?_
          refine x_get (v := vI (rd M7 67 23)) (dA D_X12_settle 38 rfl) fw_RX12_223 (sO_67 hM7) rfl ?_
          refine x_iald (dA D_X12_settle 39 rfl) (sA_77 hM7 h8 h9) ?_
          refine x_aload_n (dA D_X12_settle 40 rfl) rfl ?_
          refine x_get (v := vI (rd M7 67 17)) (dA D_X12_settle 41 rfl) fw_RX12_220 (sO_67 hM7) rfl ?_
          obtain ⟨h15, h⟩ := h
          obtain ⟨h16, h⟩ := h
          refine x_iast (dA D_X12_settle 42 rfl) (sA_75 hM7 h15 h16) ?_
          refine x_nmM (fun M17 eM17 => ?_)
          have hM17 : Sh M17 := eM17 ▸ (sW_75 hM7)
          have h := h M17 eM17 hM17
          refine x_goto (tgt := 0) (dA D_X12_settle 43 rfl) (by decide) ?_
          exact h
theorem C_X12_settle {G : GG} {d : Nat} {x1 : Int} {M : MM} {Q : PV → MM → Prop} (h : X G Y_X12_settle d 0 0 0 [vA 67, vI x1] [] M Q) : C G Y_X12_settle d 0 0 [vA 67, vI x1] M Q := X.entry (by decide) (Nat.le_of_ble_eq_true rfl) rfl rfl rfl h
set_option maxRecDepth 100000 in
theorem B_X12_isCompared_0 {G : GG} {d : Nat} {k n : Nat} {M : MM} {Q : PV → MM → Prop} (hd : 1 ≤ d) (hS : Sh M) (h : ∀ v1, v1 = (rd M 67 23) - 1 → X G Y_X12_isCompared d k n 7 [vA 67, vI v1] [] M Q) : X G Y_X12_isCompared d k n 0 [vA 67, vU] [] M Q := by
  have hd1 : 1 ≤ d := by omega
  refine x_aload_n (dA D_X12_isCompared 0 rfl) rfl ?_
  refine x_get (v := vI (rd M 67 23)) (dA D_X12_isCompared 1 rfl) fw_RX12_223 (sO_67 hS) rfl ?_
  refine x_iconst (dA D_X12_isCompared 2 rfl) ?_
  refine x_isub (dA D_X12_isCompared 3 rfl) ?_
  refine x_nmI (fun v1 ev1 => ?_)
  have h := h v1 ev1
  refine x_istore_n (xs' := [vA 67, vI v1]) (dA D_X12_isCompared 4 rfl) (by decide) rfl ?_
  exact h
theorem C_X12_isCompared {G : GG} {d : Nat} {M : MM} {Q : PV → MM → Prop} (h : X G Y_X12_isCompared d 0 0 0 [vA 67, vU] [] M Q) : C G Y_X12_isCompared d 0 0 [vA 67] M Q := X.entry (by decide) (Nat.le_of_ble_eq_true rfl) rfl rfl rfl h
set_option maxRecDepth 100000 in
theorem B_X12_isCompared_7 {G : GG} {d : Nat} {k n : Nat} {x1 : Int} {M : MM} {Q : PV → MM → Prop} (hd : 2 ≤ d) (hS : Sh M) (h : inR x1 ∧ ((x1 < 0 → X G Y_X12_isCompared d k n 36 [vA 67, vI x1] [] M Q) ∧ (0 ≤ x1 → 0 ≤ x1 ∧ x1 < 400 ∧ inR (rd M 76 x1) ∧ ((¬ (((20 : Int) ≤ (rd M 76 x1)) ∧ ((rd M 76 x1) ≤ (23 : Int))) → X G Y_X12_isCompared d k n 36 [vA 67, vI x1] [] M Q) ∧ (((20 : Int) ≤ (rd M 76 x1)) ∧ ((rd M 76 x1) ≤ (23 : Int)) → X G Y_X12_isCompared d k n 7 [vA 67, vI (x1 + (-1))] [] M Q))))) : X G Y_X12_isCompared d k n 7 [vA 67, vI x1] [] M Q := by
  have hd1 : 1 ≤ d := by omega
  refine x_iload_n (dA D_X12_isCompared 5 rfl) rfl ?_
  obtain ⟨h1, h⟩ := h
  refine x_if_ltP (tgt := 36) (dA D_X12_isCompared 6 rfl) (by decide) h1 ⟨fun c => ?_, fun c => ?_⟩
  · have h := h.1 c
    exact h
  · have h := h.2 c
    refine x_aload_n (dA D_X12_isCompared 7 rfl) rfl ?_
    refine x_get (v := vA 76) (dA D_X12_isCompared 8 rfl) fw_RX12_39 (sO_67 hS) (congrArg (rfV G) (sR_67_21 hS)) ?_
    refine x_iload_n (dA D_X12_isCompared 9 rfl) rfl ?_
    obtain ⟨h2, h⟩ := h
    obtain ⟨h3, h⟩ := h
    refine x_iald (dA D_X12_isCompared 10 rfl) (sA_76 hS h2 h3) ?_
    obtain ⟨h4, h⟩ := h
    refine x_i2l (dA D_X12_isCompared 11 rfl) h4 ?_
    refine x_ldc2 (a := 20) (dA D_X12_isCompared 12 rfl) kl_RX12_233 (by decide) ?_
    refine x_ldc2 (a := 23) (dA D_X12_isCompared 13 rfl) kl_RX12_235 (by decide) ?_
    refine x_callS [vL (rd M 76 x1), vL 20, vL 23] [] (dA D_X12_isCompared 14 rfl) cw_RX12_125 rfl rfl (Nat.le_of_ble_eq_true rfl) hd1 (zk k) (zk n) (S_X12_in (inR_L h4) ⟨by decide, by decide⟩ ⟨by decide, by decide⟩ (by omega) ?_) (kI (fun _ _ h => h))
    show X G Y_X12_isCompared d k n 27 [vA 67, vI x1] [vI (if ((20 : Int) ≤ (rd M 76 x1)) ∧ ((rd M 76 x1) ≤ (23 : Int)) then 1 else 0)] M Q
    refine x_if_eqB (tgt := 36) (dA D_X12_isCompared 15 rfl) (by decide) ⟨fun c => ?_, fun c => ?_⟩
    · have h := h.1 c
      exact h
    · have h := h.2 c
      refine x_iinc (xs' := [vA 67, vI (x1 + (-1))]) (dA D_X12_isCompared 16 rfl) rfl (by decide) rfl ?_
      refine x_goto (tgt := 7) (dA D_X12_isCompared 17 rfl) (by decide) ?_
      exact h
set_option maxRecDepth 100000 in
theorem B_X12_isCompared_36 {G : GG} {d : Nat} {k n : Nat} {x1 : Int} {M : MM} {Q : PV → MM → Prop} (hd : 2 ≤ d) (hS : Sh M) (h : inR x1 ∧ ((x1 < 0 → Q (vI 0) M) ∧ (0 ≤ x1 → 0 ≤ x1 ∧ x1 < 400 ∧ inR (rd M 76 x1) ∧ Q (vI (if ((24 : Int) ≤ (rd M 76 x1)) ∧ ((rd M 76 x1) ≤ (26 : Int)) then 1 else 0)) M))) : X G Y_X12_isCompared d k n 36 [vA 67, vI x1] [] M Q := by
  have hd1 : 1 ≤ d := by omega
  refine x_iload_n (dA D_X12_isCompared 18 rfl) rfl ?_
  obtain ⟨h1, h⟩ := h
  refine x_if_ltP (tgt := 63) (dA D_X12_isCompared 19 rfl) (by decide) h1 ⟨fun c => ?_, fun c => ?_⟩
  · have h := h.1 c
    refine x_iconst (dA D_X12_isCompared 31 rfl) ?_
    exact x_zreturn (dA D_X12_isCompared 32 rfl) rfl (by decide) h
  · have h := h.2 c
    refine x_aload_n (dA D_X12_isCompared 20 rfl) rfl ?_
    refine x_get (v := vA 76) (dA D_X12_isCompared 21 rfl) fw_RX12_39 (sO_67 hS) (congrArg (rfV G) (sR_67_21 hS)) ?_
    refine x_iload_n (dA D_X12_isCompared 22 rfl) rfl ?_
    obtain ⟨h2, h⟩ := h
    obtain ⟨h3, h⟩ := h
    refine x_iald (dA D_X12_isCompared 23 rfl) (sA_76 hS h2 h3) ?_
    obtain ⟨h4, h⟩ := h
    refine x_i2l (dA D_X12_isCompared 24 rfl) h4 ?_
    refine x_ldc2 (a := 24) (dA D_X12_isCompared 25 rfl) kl_RX12_237 (by decide) ?_
    refine x_ldc2 (a := 26) (dA D_X12_isCompared 26 rfl) kl_RX12_239 (by decide) ?_
    refine x_callS [vL (rd M 76 x1), vL 24, vL 26] [] (dA D_X12_isCompared 27 rfl) cw_RX12_125 rfl rfl (Nat.le_of_ble_eq_true rfl) hd1 (zk k) (zk n) (S_X12_in (inR_L h4) ⟨by decide, by decide⟩ ⟨by decide, by decide⟩ (by omega) ?_) (kI (fun _ _ h => h))
    show X G Y_X12_isCompared d k n 56 [vA 67, vI x1] [vI (if ((24 : Int) ≤ (rd M 76 x1)) ∧ ((rd M 76 x1) ≤ (26 : Int)) then 1 else 0)] M Q
    have hJ : X G Y_X12_isCompared d k n 64 [vA 67, vI x1] [vI (if ((24 : Int) ≤ (rd M 76 x1)) ∧ ((rd M 76 x1) ≤ (26 : Int)) then 1 else 0)] M Q := by
      exact x_zreturn (dA D_X12_isCompared 32 rfl) rfl (by split <;> decide) h
    refine x_if_eqB (tgt := 63) (dA D_X12_isCompared 28 rfl) (by decide) ⟨fun c5 => ?_, fun c5 => ?_⟩
    · refine x_iconst (dA D_X12_isCompared 31 rfl) ?_
      have e0 : (if ((24 : Int) ≤ (rd M 76 x1)) ∧ ((rd M 76 x1) ≤ (26 : Int)) then (1 : Int) else 0) = 0 := if_neg (by first | omega | grind)
      rw [e0] at hJ
      exact hJ
    · refine x_iconst (dA D_X12_isCompared 29 rfl) ?_
      refine x_goto (tgt := 64) (dA D_X12_isCompared 30 rfl) (by decide) ?_
      have e0 : (if ((24 : Int) ≤ (rd M 76 x1)) ∧ ((rd M 76 x1) ≤ (26 : Int)) then (1 : Int) else 0) = 1 := if_pos (by first | omega | grind)
      rw [e0] at hJ
      exact hJ
set_option maxRecDepth 100000 in
theorem B_X12_partAt_0 {G : GG} {d : Nat} {k n : Nat} {M : MM} {Q : PV → MM → Prop} (hd : 1 ≤ d) (hS : Sh M) (h : X G Y_X12_partAt d k n 4 [vA 67, vI (-1), vI 0] [] M Q) : X G Y_X12_partAt d k n 0 [vA 67, vU, vU] [] M Q := by
  have hd1 : 1 ≤ d := by omega
  refine x_iconst (dA D_X12_partAt 0 rfl) ?_
  refine x_istore_n (xs' := [vA 67, vI (-1), vU]) (dA D_X12_partAt 1 rfl) (by decide) rfl ?_
  refine x_iconst (dA D_X12_partAt 2 rfl) ?_
  refine x_istore_n (xs' := [vA 67, vI (-1), vI 0]) (dA D_X12_partAt 3 rfl) (by decide) rfl ?_
  exact h
theorem C_X12_partAt {G : GG} {d : Nat} {M : MM} {Q : PV → MM → Prop} (h : X G Y_X12_partAt d 0 0 0 [vA 67, vU, vU] [] M Q) : C G Y_X12_partAt d 0 0 [vA 67] M Q := X.entry (by decide) (Nat.le_of_ble_eq_true rfl) rfl rfl rfl h
set_option maxRecDepth 100000 in
theorem B_X12_partAt_4 {G : GG} {d : Nat} {k n : Nat} {x1 x2 : Int} {M : MM} {Q : PV → MM → Prop} (hd : 2 ≤ d) (hS : Sh M) (h : inR x2 ∧ ((7 ≤ x2 → Q (vI x1) M) ∧ (x2 < 7 → 0 ≤ x2 ∧ x2 < 7 ∧ inR (rd M 67 11) ∧ inL (rd M 67 12) ∧ inL (rd M 78 x2) ∧ ∀ v13, v13 = (if ¬ (((rd M 67 11) = 1) ∧ ((rd M 67 12) = (rd M 78 x2))) then x1 else (x2 + 1)) → X G Y_X12_partAt d k n 4 [vA 67, vI v13, vI (x2 + 1)] [] M Q))) : X G Y_X12_partAt d k n 4 [vA 67, vI x1, vI x2] [] M Q := by
  have hd1 : 1 ≤ d := by omega
  refine x_iload_n (dA D_X12_partAt 4 rfl) rfl ?_
  refine x_bipush (dA D_X12_partAt 5 rfl) (by decide) (by decide) ?_
  obtain ⟨h1, h⟩ := h
  refine x_icmp_geP (tgt := 37) (dA D_X12_partAt 6 rfl) (by decide) h1 ⟨by decide, by decide⟩ ⟨fun c => ?_, fun c => ?_⟩
  · have h := h.1 c
    refine x_iload_n (dA D_X12_partAt 22 rfl) rfl ?_
    exact x_ireturn (dA D_X12_partAt 23 rfl) rfl h
  · have h := h.2 c
    refine x_aload_n (dA D_X12_partAt 7 rfl) rfl ?_
    refine x_aload_n (dA D_X12_partAt 8 rfl) rfl ?_
    refine x_get (v := vA 78) (dA D_X12_partAt 9 rfl) fw_RX12_59 (sO_67 hS) (congrArg (rfV G) (sR_67_25 hS)) ?_
    refine x_iload_n (dA D_X12_partAt 10 rfl) rfl ?_
    obtain ⟨h2, h⟩ := h
    obtain ⟨h3, h⟩ := h
    refine x_lald (dA D_X12_partAt 11 rfl) (sA_78 hS h2 h3) ?_
    obtain ⟨h4, h⟩ := h
    obtain ⟨h5, h⟩ := h
    obtain ⟨h6, h⟩ := h
    refine x_callV 11 [vL (rd M 78 x2)] [] (dA D_X12_partAt 12 rfl) cw_RX12_241 rfl rfl (Nat.le_of_ble_eq_true rfl) (by decide) rfl hd1 (zk k) (zk n) (sO_67 hS) (S_X12_isWord hS h4 h5 h6 (by omega) ?_) (kI (fun _ _ h => h))
    show X G Y_X12_partAt d k n 20 [vA 67, vI x1, vI x2] [vI (if ((rd M 67 11) = 1) ∧ ((rd M 67 12) = (rd M 78 x2)) then 1 else 0)] M Q
    have hJ : X G Y_X12_partAt d k n 30 [vA 67, vI x1, vI x2] [vI (if ¬ (((rd M 67 11) = 1) ∧ ((rd M 67 12) = (rd M 78 x2))) then x1 else (x2 + 1))] M Q := by
      refine x_nmI (fun v13 ev13 => ?_)
      have h := h v13 ev13
      refine x_istore_n (xs' := [vA 67, vI v13, vI x2]) (dA D_X12_partAt 19 rfl) (by decide) rfl ?_
      refine x_iinc (xs' := [vA 67, vI v13, vI (x2 + 1)]) (dA D_X12_partAt 20 rfl) rfl (by decide) rfl ?_
      refine x_goto (tgt := 4) (dA D_X12_partAt 21 rfl) (by decide) ?_
      exact h
    refine x_if_eqB (tgt := 29) (dA D_X12_partAt 13 rfl) (by decide) ⟨fun c7 => ?_, fun c7 => ?_⟩
    · refine x_iload_n (dA D_X12_partAt 18 rfl) rfl ?_
      rw [if_pos c7] at hJ
      exact hJ
    · refine x_iload_n (dA D_X12_partAt 14 rfl) rfl ?_
      refine x_iconst (dA D_X12_partAt 15 rfl) ?_
      refine x_iadd (dA D_X12_partAt 16 rfl) ?_
      refine x_goto (tgt := 30) (dA D_X12_partAt 17 rfl) (by decide) ?_
      rw [if_neg (by first | omega | grind)] at hJ
      exact hJ
set_option maxRecDepth 100000 in
theorem B_X12_openBracket_0 {G : GG} {d : Nat} {k n : Nat} {x1 : Int} {M : MM} {Q : PV → MM → Prop} (hd : 2 ≤ d) (hS : Sh M) (h : inR (rd M 67 24) ∧ C G Y_X12_must (d - 1) 0 0 [vA 67, vI (if (rd M 67 24) < 8 then 1 else 0)] M (rU (fun M6 => Sh M6 ∧ inR (rd M6 67 14) ∧ (((rd M6 67 14) ≠ 0 → Q vU M6) ∧ ((rd M6 67 14) = 0 → ∀ M8, M8 = wr M6 67 24 ((rd M6 67 24) + 1) → Sh M8 → C G Y_X12_push (d - 1) 0 0 [vA 67, vI x1, vI 0] M8 (rU (fun M9 => Sh M9 ∧ Q vU M9))))))) : X G Y_X12_openBracket d k n 0 [vA 67, vI x1] [] M Q := by
  have hd1 : 1 ≤ d := by omega
  refine x_aload_n (dA D_X12_openBracket 0 rfl) rfl ?_
  refine x_aload_n (dA D_X12_openBracket 1 rfl) rfl ?_
  refine x_get (v := vI (rd M 67 24)) (dA D_X12_openBracket 2 rfl) fw_RX12_245 (sO_67 hS) rfl ?_
  refine x_bipush (dA D_X12_openBracket 3 rfl) (by decide) (by decide) ?_
  obtain ⟨h2, h⟩ := h
  have hJ : X G Y_X12_openBracket d k n 15 [vA 67, vI x1] [vI (if (rd M 67 24) < 8 then 1 else 0), vA 67] M Q := by
    refine x_callV 11 [vI (if (rd M 67 24) < 8 then 1 else 0)] [] (dA D_X12_openBracket 8 rfl) cw_RX12_216 rfl rfl (Nat.le_of_ble_eq_true rfl) (by decide) rfl hd1 (zk k) (zk n) (sO_67 hS) h (kU (fun M6 h => ?_))
    obtain ⟨hM6, h⟩ := h
    refine x_aload_n (dA D_X12_openBracket 9 rfl) rfl ?_
    refine x_get (v := vI (rd M6 67 14)) (dA D_X12_openBracket 10 rfl) fw_RX12_181 (sO_67 hM6) rfl ?_
    obtain ⟨h7, h⟩ := h
    refine x_if_neP (tgt := 41) (dA D_X12_openBracket 11 rfl) (by decide) h7 ⟨fun c => ?_, fun c => ?_⟩
    · have h := h.1 c
      exact x_return (dA D_X12_openBracket 22 rfl) rfl h
    · have h := h.2 c
      refine x_aload_n (dA D_X12_openBracket 12 rfl) rfl ?_
      refine x_dup (dA D_X12_openBracket 13 rfl) rfl ?_
      refine x_get (v := vI (rd M6 67 24)) (dA D_X12_openBracket 14 rfl) fw_RX12_245 (sO_67 hM6) rfl ?_
      refine x_iconst (dA D_X12_openBracket 15 rfl) ?_
      refine x_iadd (dA D_X12_openBracket 16 rfl) ?_
      refine x_put (x := (rd M6 67 24) + 1) (dA D_X12_openBracket 17 rfl) fw_RX12_245 (fun _ _ hc => by cases hc; exact Or.inl rfl) (sO_67 hM6) rfl rfl rfl ?_
      refine x_nmM (fun M8 eM8 => ?_)
      have hM8 : Sh M8 := eM8 ▸ (sW_67_24 hM6)
      have h := h M8 eM8 hM8
      refine x_aload_n (dA D_X12_openBracket 18 rfl) rfl ?_
      refine x_iload_n (dA D_X12_openBracket 19 rfl) rfl ?_
      refine x_iconst (dA D_X12_openBracket 20 rfl) ?_
      refine x_callV 11 [vI x1, vI 0] [] (dA D_X12_openBracket 21 rfl) cw_RX12_248 rfl rfl (Nat.le_of_ble_eq_true rfl) (by decide) rfl hd1 (zk k) (zk n) (sO_67 hM8) h (kU (fun M9 h => ?_))
      obtain ⟨hM9, h⟩ := h
      exact x_return (dA D_X12_openBracket 22 rfl) rfl h
  refine x_icmp_geP (tgt := 14) (dA D_X12_openBracket 4 rfl) (by decide) h2 ⟨by decide, by decide⟩ ⟨fun c1 => ?_, fun c1 => ?_⟩
  · refine x_iconst (dA D_X12_openBracket 7 rfl) ?_
    have e0 : (if (rd M 67 24) < 8 then (1 : Int) else 0) = 0 := if_neg (by first | omega | grind)
    rw [e0] at hJ
    exact hJ
  · refine x_iconst (dA D_X12_openBracket 5 rfl) ?_
    refine x_goto (tgt := 15) (dA D_X12_openBracket 6 rfl) (by decide) ?_
    have e0 : (if (rd M 67 24) < 8 then (1 : Int) else 0) = 1 := if_pos (by first | omega | grind)
    rw [e0] at hJ
    exact hJ
theorem C_X12_openBracket {G : GG} {d : Nat} {x1 : Int} {M : MM} {Q : PV → MM → Prop} (h : X G Y_X12_openBracket d 0 0 0 [vA 67, vI x1] [] M Q) : C G Y_X12_openBracket d 0 0 [vA 67, vI x1] M Q := X.entry (by decide) (Nat.le_of_ble_eq_true rfl) rfl rfl rfl h
set_option maxRecDepth 100000 in
theorem B_X12_leaf_0 {G : GG} {d : Nat} {k n : Nat} {x1 x2 x3 : Int} {M : MM} {Q : PV → MM → Prop} (hd : 2 ≤ d) (hS : Sh M) (h : inR x1 ∧ inR (rd M 67 20) ∧ C G Y_X12_must (d - 1) 0 0 [vA 67, vI (if (x1 ≠ 0) ∧ ((rd M 67 20) < 50) then 1 else 0)] M (rU (fun M12 => Sh M12 ∧ inR (rd M12 67 14) ∧ (((rd M12 67 14) ≠ 0 → Q vU M12) ∧ ((rd M12 67 14) = 0 → C G Y_X12_emit (d - 1) 0 0 [vA 67, vI x2, vI x3] M12 (rU (fun M14 => Sh M14 ∧ ∀ M15, M15 = wr M14 67 20 ((rd M14 67 20) + 1) → Sh M15 → Q vU M15))))))) : X G Y_X12_leaf d k n 0 [vA 67, vI x1, vI x2, vI x3] [] M Q := by
  have hd1 : 1 ≤ d := by omega
  refine x_aload_n (dA D_X12_leaf 0 rfl) rfl ?_
  refine x_iload_n (dA D_X12_leaf 1 rfl) rfl ?_
  obtain ⟨h2, h⟩ := h
  obtain ⟨h8, h⟩ := h
  have hJ : X G Y_X12_leaf d k n 19 [vA 67, vI x1, vI x2, vI x3] [vI (if (x1 ≠ 0) ∧ ((rd M 67 20) < 50) then 1 else 0), vA 67] M Q := by
    refine x_callV 11 [vI (if (x1 ≠ 0) ∧ ((rd M 67 20) < 50) then 1 else 0)] [] (dA D_X12_leaf 10 rfl) cw_RX12_216 rfl rfl (Nat.le_of_ble_eq_true rfl) (by decide) rfl hd1 (zk k) (zk n) (sO_67 hS) h (kU (fun M12 h => ?_))
    obtain ⟨hM12, h⟩ := h
    refine x_aload_n (dA D_X12_leaf 11 rfl) rfl ?_
    refine x_get (v := vI (rd M12 67 14)) (dA D_X12_leaf 12 rfl) fw_RX12_181 (sO_67 hM12) rfl ?_
    obtain ⟨h13, h⟩ := h
    refine x_if_neP (tgt := 45) (dA D_X12_leaf 13 rfl) (by decide) h13 ⟨fun c => ?_, fun c => ?_⟩
    · have h := h.1 c
      exact x_return (dA D_X12_leaf 24 rfl) rfl h
    · have h := h.2 c
      refine x_aload_n (dA D_X12_leaf 14 rfl) rfl ?_
      refine x_iload_n (dA D_X12_leaf 15 rfl) rfl ?_
      refine x_iload_n (dA D_X12_leaf 16 rfl) rfl ?_
      refine x_callV 11 [vI x2, vI x3] [] (dA D_X12_leaf 17 rfl) cw_RX12_229 rfl rfl (Nat.le_of_ble_eq_true rfl) (by decide) rfl hd1 (zk k) (zk n) (sO_67 hM12) h (kU (fun M14 h => ?_))
      obtain ⟨hM14, h⟩ := h
      refine x_aload_n (dA D_X12_leaf 18 rfl) rfl ?_
      refine x_dup (dA D_X12_leaf 19 rfl) rfl ?_
      refine x_get (v := vI (rd M14 67 20)) (dA D_X12_leaf 20 rfl) fw_RX12_251 (sO_67 hM14) rfl ?_
      refine x_iconst (dA D_X12_leaf 21 rfl) ?_
      refine x_iadd (dA D_X12_leaf 22 rfl) ?_
      refine x_put (x := (rd M14 67 20) + 1) (dA D_X12_leaf 23 rfl) fw_RX12_251 (fun _ _ hc => by cases hc; exact Or.inl rfl) (sO_67 hM14) rfl rfl rfl ?_
      refine x_nmM (fun M15 eM15 => ?_)
      have hM15 : Sh M15 := eM15 ▸ (sW_67_20 hM14)
      have h := h M15 eM15 hM15
      exact x_return (dA D_X12_leaf 24 rfl) rfl h
  refine x_if_eqP (tgt := 18) (dA D_X12_leaf 2 rfl) (by decide) h2 ⟨fun c1 => ?_, fun c1 => ?_⟩
  · refine x_iconst (dA D_X12_leaf 9 rfl) ?_
    have e0 : (if (x1 ≠ 0) ∧ ((rd M 67 20) < 50) then (1 : Int) else 0) = 0 := if_neg (by first | omega | grind)
    rw [e0] at hJ
    exact hJ
  · refine x_aload_n (dA D_X12_leaf 3 rfl) rfl ?_
    refine x_get (v := vI (rd M 67 20)) (dA D_X12_leaf 4 rfl) fw_RX12_251 (sO_67 hS) rfl ?_
    refine x_bipush (dA D_X12_leaf 5 rfl) (by decide) (by decide) ?_
    refine x_icmp_geP (tgt := 18) (dA D_X12_leaf 6 rfl) (by decide) h8 ⟨by decide, by decide⟩ ⟨fun c7 => ?_, fun c7 => ?_⟩
    · refine x_iconst (dA D_X12_leaf 9 rfl) ?_
      have e0 : (if (x1 ≠ 0) ∧ ((rd M 67 20) < 50) then (1 : Int) else 0) = 0 := if_neg (by first | omega | grind)
      rw [e0] at hJ
      exact hJ
    · refine x_iconst (dA D_X12_leaf 7 rfl) ?_
      refine x_goto (tgt := 19) (dA D_X12_leaf 8 rfl) (by decide) ?_
      have e0 : (if (x1 ≠ 0) ∧ ((rd M 67 20) < 50) then (1 : Int) else 0) = 1 := if_pos (by first | omega | grind)
      rw [e0] at hJ
      exact hJ
theorem C_X12_leaf {G : GG} {d : Nat} {x1 x2 x3 : Int} {M : MM} {Q : PV → MM → Prop} (h : X G Y_X12_leaf d 0 0 0 [vA 67, vI x1, vI x2, vI x3] [] M Q) : C G Y_X12_leaf d 0 0 [vA 67, vI x1, vI x2, vI x3] M Q := X.entry (by decide) (Nat.le_of_ble_eq_true rfl) rfl rfl rfl h
set_option maxRecDepth 100000 in
theorem B_X12_readPart_0 {G : GG} {d : Nat} {k n : Nat} {M : MM} {Q : PV → MM → Prop} (hd : 2 ≤ d) (hS : Sh M) (h : inR (rd M 67 11) ∧ inL (rd M 67 12) ∧ ((¬ (((rd M 67 11) = 3) ∧ ((rd M 67 12) = (91 : Int))) → C G Y_X12_partAt (d - 1) 0 0 [vA 67] M (rI (fun r4 M3 => Sh M3 ∧ inR (rd M3 67 11) ∧ inL (rd M3 67 12) ∧ (((((rd M3 67 11) ≠ 2) ∨ (1000 < (rd M3 67 12))) → X G Y_X12_readPart d k n 45 [vA 67, vI r4, vU] [] M3 Q) ∧ (¬ (((rd M3 67 11) ≠ 2) ∨ (1000 < (rd M3 67 12))) → inR r4 ∧ ((r4 ≠ (-1) → C G Y_X12_leaf (d - 1) 0 0 [vA 67, vI 1, vI (if r4 ≠ (-1) then r4 else 0), vI (rd M3 67 12)] M3 (rU (fun M19 => Sh M19 ∧ Q (vI 3) M19))) ∧ (r4 = (-1) → C G Y_X12_leaf (d - 1) 0 0 [vA 67, vI 1, vI (if r4 ≠ (-1) then r4 else 0), vI (rd M3 67 12)] M3 (rU (fun M24 => Sh M24 ∧ Q (vI 3) M24))))))))) ∧ (((rd M 67 11) = 3) ∧ ((rd M 67 12) = (91 : Int)) → C G Y_X12_openBracket (d - 1) 0 0 [vA 67, vI 31] M (rU (fun M26 => Sh M26 ∧ Q (vI 1) M26))))) : X G Y_X12_readPart d k n 0 [vA 67, vU, vU] [] M Q := by
  have hd1 : 1 ≤ d := by omega
  refine x_aload_n (dA D_X12_readPart 0 rfl) rfl ?_
  refine x_bipush (dA D_X12_readPart 1 rfl) (by decide) (by decide) ?_
  obtain ⟨h1, h⟩ := h
  obtain ⟨h2, h⟩ := h
  refine x_callV 11 [vI 91] [] (dA D_X12_readPart 2 rfl) cw_RX12_254 rfl rfl (Nat.le_of_ble_eq_true rfl) (by decide) rfl hd1 (zk k) (zk n) (sO_67 hS) (S_X12_isSign hS h1 ⟨by decide, by decide⟩ h2 ⟨by decide, by decide⟩ (by omega) ?_) (kI (fun _ _ h => h))
  show X G Y_X12_readPart d k n 6 [vA 67, vU, vU] [vI (if ((rd M 67 11) = 3) ∧ ((rd M 67 12) = (91 : Int)) then 1 else 0)] M Q
  refine x_if_eqB (tgt := 17) (dA D_X12_readPart 3 rfl) (by decide) ⟨fun c => ?_, fun c => ?_⟩
  · have h := h.1 c
    refine x_aload_n (dA D_X12_readPart 9 rfl) rfl ?_
    refine x_callV 11 [] [] (dA D_X12_readPart 10 rfl) cw_RX12_260 rfl rfl (Nat.le_of_ble_eq_true rfl) (by decide) rfl hd1 (zk k) (zk n) (sO_67 hS) h (kI (fun r4 M3 h => ?_))
    obtain ⟨hM3, h⟩ := h
    refine x_istore_n (xs' := [vA 67, vI r4, vU]) (dA D_X12_readPart 11 rfl) (by decide) rfl ?_
    refine x_aload_n (dA D_X12_readPart 12 rfl) rfl ?_
    refine x_get (v := vI (rd M3 67 11)) (dA D_X12_readPart 13 rfl) fw_RX12_201 (sO_67 hM3) rfl ?_
    refine x_iconst (dA D_X12_readPart 14 rfl) ?_
    obtain ⟨h6, h⟩ := h
    obtain ⟨h11, h⟩ := h
    have hA : (((rd M3 67 11) ≠ 2) ∨ (1000 < (rd M3 67 12))) → X G Y_X12_readPart d k n 45 [vA 67, vI r4, vU] [] M3 Q := by
      intro c25
      have h := h.1 c25
      exact h
    have hB : ¬ (((rd M3 67 11) ≠ 2) ∨ (1000 < (rd M3 67 12))) → X G Y_X12_readPart d k n 46 [vA 67, vI r4, vU] [vI 1] M3 Q := by
      intro c25
      have h := h.2 c25
      refine x_istore_n (xs' := [vA 67, vI r4, vI 1]) (dA D_X12_readPart 24 rfl) (by decide) rfl ?_
      refine x_aload_n (dA D_X12_readPart 25 rfl) rfl ?_
      refine x_iload_n (dA D_X12_readPart 26 rfl) rfl ?_
      refine x_iconst (dA D_X12_readPart 27 rfl) ?_
      obtain ⟨h14, h⟩ := h
      refine x_icmp_neP (tgt := 57) (dA D_X12_readPart 28 rfl) (by decide) h14 ⟨by decide, by decide⟩ ⟨fun c => ?_, fun c => ?_⟩
      · have h := h.1 c
        refine x_iconst (dA D_X12_readPart 31 rfl) ?_
        refine x_goto (tgt := 62) (dA D_X12_readPart 32 rfl) (by decide) ?_
        refine x_iload_n (dA D_X12_readPart 34 rfl) rfl ?_
        refine x_iconst (dA D_X12_readPart 35 rfl) ?_
        have hJ : X G Y_X12_readPart d k n 72 [vA 67, vI r4, vI 1] [vI (if r4 ≠ (-1) then r4 else 0), vI 1, vA 67] M3 Q := by
          refine x_iload_n (dA D_X12_readPart 40 rfl) rfl ?_
          refine x_if_eqP (tgt := 84) (dA D_X12_readPart 41 rfl) (by decide) ⟨by decide, by decide⟩ ⟨fun c => ?_, fun c => ?_⟩
          · exact absurd c (by decide)
          · skip
            refine x_aload_n (dA D_X12_readPart 42 rfl) rfl ?_
            refine x_get (v := vL (rd M3 67 12)) (dA D_X12_readPart 43 rfl) fw_RX12_191 (sO_67 hM3) rfl ?_
            refine x_l2i (dA D_X12_readPart 44 rfl) ?_
            refine x_goto (tgt := 85) (dA D_X12_readPart 45 rfl) (by decide) ?_
            refine x_callV 11 [vI 1, vI (if r4 ≠ (-1) then r4 else 0), vI (rd M3 67 12)] [] (dA D_X12_readPart 47 rfl) cw_RX12_266 rfl rfl (Nat.le_of_ble_eq_true rfl) (by decide) rfl hd1 (zk k) (zk n) (sO_67 hM3) h (kU (fun M19 h => ?_))
            obtain ⟨hM19, h⟩ := h
            refine x_iconst (dA D_X12_readPart 48 rfl) ?_
            exact x_ireturn (dA D_X12_readPart 49 rfl) rfl h
        refine x_icmp_neP (tgt := 71) (dA D_X12_readPart 36 rfl) (by decide) h14 ⟨by decide, by decide⟩ ⟨fun c15 => ?_, fun c15 => ?_⟩
        · refine x_iload_n (dA D_X12_readPart 39 rfl) rfl ?_
          rw [if_pos c15] at hJ
          exact hJ
        · refine x_iconst (dA D_X12_readPart 37 rfl) ?_
          refine x_goto (tgt := 72) (dA D_X12_readPart 38 rfl) (by decide) ?_
          rw [if_neg (by first | omega | grind)] at hJ
          exact hJ
      · have h := h.2 c
        refine x_iload_n (dA D_X12_readPart 29 rfl) rfl ?_
        refine x_if_eqP (tgt := 61) (dA D_X12_readPart 30 rfl) (by decide) ⟨by decide, by decide⟩ ⟨fun c => ?_, fun c => ?_⟩
        · exact absurd c (by decide)
        · skip
          refine x_iconst (dA D_X12_readPart 31 rfl) ?_
          refine x_goto (tgt := 62) (dA D_X12_readPart 32 rfl) (by decide) ?_
          refine x_iload_n (dA D_X12_readPart 34 rfl) rfl ?_
          refine x_iconst (dA D_X12_readPart 35 rfl) ?_
          have hJ : X G Y_X12_readPart d k n 72 [vA 67, vI r4, vI 1] [vI (if r4 ≠ (-1) then r4 else 0), vI 1, vA 67] M3 Q := by
            refine x_iload_n (dA D_X12_readPart 40 rfl) rfl ?_
            refine x_if_eqP (tgt := 84) (dA D_X12_readPart 41 rfl) (by decide) ⟨by decide, by decide⟩ ⟨fun c => ?_, fun c => ?_⟩
            · exact absurd c (by decide)
            · skip
              refine x_aload_n (dA D_X12_readPart 42 rfl) rfl ?_
              refine x_get (v := vL (rd M3 67 12)) (dA D_X12_readPart 43 rfl) fw_RX12_191 (sO_67 hM3) rfl ?_
              refine x_l2i (dA D_X12_readPart 44 rfl) ?_
              refine x_goto (tgt := 85) (dA D_X12_readPart 45 rfl) (by decide) ?_
              refine x_callV 11 [vI 1, vI (if r4 ≠ (-1) then r4 else 0), vI (rd M3 67 12)] [] (dA D_X12_readPart 47 rfl) cw_RX12_266 rfl rfl (Nat.le_of_ble_eq_true rfl) (by decide) rfl hd1 (zk k) (zk n) (sO_67 hM3) h (kU (fun M24 h => ?_))
              obtain ⟨hM24, h⟩ := h
              refine x_iconst (dA D_X12_readPart 48 rfl) ?_
              exact x_ireturn (dA D_X12_readPart 49 rfl) rfl h
          refine x_icmp_neP (tgt := 71) (dA D_X12_readPart 36 rfl) (by decide) h14 ⟨by decide, by decide⟩ ⟨fun c20 => ?_, fun c20 => ?_⟩
          · refine x_iload_n (dA D_X12_readPart 39 rfl) rfl ?_
            rw [if_pos c20] at hJ
            exact hJ
          · refine x_iconst (dA D_X12_readPart 37 rfl) ?_
            refine x_goto (tgt := 72) (dA D_X12_readPart 38 rfl) (by decide) ?_
            rw [if_neg (by first | omega | grind)] at hJ
            exact hJ
    refine x_icmp_neP (tgt := 45) (dA D_X12_readPart 15 rfl) (by decide) h6 ⟨by decide, by decide⟩ ⟨fun c5 => ?_, fun c5 => ?_⟩
    · exact hA (by first | omega | grind)
    · refine x_aload_n (dA D_X12_readPart 16 rfl) rfl ?_
      refine x_get (v := vL (rd M3 67 12)) (dA D_X12_readPart 17 rfl) fw_RX12_191 (sO_67 hM3) rfl ?_
      refine x_ldc2 (a := 1000) (dA D_X12_readPart 18 rfl) kl_RX12_264 (by decide) ?_
      refine x_lcmp_gtP (tgt := 45) (dA D_X12_readPart 19 rfl) (dA D_X12_readPart 20 rfl) (by decide) h11 ⟨by decide, by decide⟩ ⟨fun c10 => ?_, fun c10 => ?_⟩
      · exact hA (by first | omega | grind)
      · refine x_iconst (dA D_X12_readPart 21 rfl) ?_
        refine x_goto (tgt := 46) (dA D_X12_readPart 22 rfl) (by decide) ?_
        exact hB (by first | omega | grind)
  · have h := h.2 c
    refine x_aload_n (dA D_X12_readPart 4 rfl) rfl ?_
    refine x_bipush (dA D_X12_readPart 5 rfl) (by decide) (by decide) ?_
    refine x_callV 11 [vI 31] [] (dA D_X12_readPart 6 rfl) cw_RX12_257 rfl rfl (Nat.le_of_ble_eq_true rfl) (by decide) rfl hd1 (zk k) (zk n) (sO_67 hS) h (kU (fun M26 h => ?_))
    obtain ⟨hM26, h⟩ := h
    refine x_iconst (dA D_X12_readPart 7 rfl) ?_
    exact x_ireturn (dA D_X12_readPart 8 rfl) rfl h
theorem C_X12_readPart {G : GG} {d : Nat} {M : MM} {Q : PV → MM → Prop} (h : X G Y_X12_readPart d 0 0 0 [vA 67, vU, vU] [] M Q) : C G Y_X12_readPart d 0 0 [vA 67] M Q := X.entry (by decide) (Nat.le_of_ble_eq_true rfl) rfl rfl rfl h
set_option maxRecDepth 100000 in
theorem B_X12_readPart_45 {G : GG} {d : Nat} {k n : Nat} {x1 : Int} {M : MM} {Q : PV → MM → Prop} (hd : 2 ≤ d) (hS : Sh M) (h : inR x1 ∧ ((x1 ≠ (-1) → C G Y_X12_leaf (d - 1) 0 0 [vA 67, vI 1, vI (if x1 ≠ (-1) then x1 else 0), vI 0] M (rU (fun M6 => Sh M6 ∧ Q (vI 3) M6))) ∧ (x1 = (-1) → C G Y_X12_leaf (d - 1) 0 0 [vA 67, vI 0, vI (if x1 ≠ (-1) then x1 else 0), vI 0] M (rU (fun M11 => Sh M11 ∧ Q (vI 3) M11))))) : X G Y_X12_readPart d k n 45 [vA 67, vI x1, vU] [] M Q := by
  have hd1 : 1 ≤ d := by omega
  refine x_iconst (dA D_X12_readPart 23 rfl) ?_
  refine x_istore_n (xs' := [vA 67, vI x1, vI 0]) (dA D_X12_readPart 24 rfl) (by decide) rfl ?_
  refine x_aload_n (dA D_X12_readPart 25 rfl) rfl ?_
  refine x_iload_n (dA D_X12_readPart 26 rfl) rfl ?_
  refine x_iconst (dA D_X12_readPart 27 rfl) ?_
  obtain ⟨h1, h⟩ := h
  refine x_icmp_neP (tgt := 57) (dA D_X12_readPart 28 rfl) (by decide) h1 ⟨by decide, by decide⟩ ⟨fun c => ?_, fun c => ?_⟩
  · have h := h.1 c
    refine x_iconst (dA D_X12_readPart 31 rfl) ?_
    refine x_goto (tgt := 62) (dA D_X12_readPart 32 rfl) (by decide) ?_
    refine x_iload_n (dA D_X12_readPart 34 rfl) rfl ?_
    refine x_iconst (dA D_X12_readPart 35 rfl) ?_
    have hJ : X G Y_X12_readPart d k n 72 [vA 67, vI x1, vI 0] [vI (if x1 ≠ (-1) then x1 else 0), vI 1, vA 67] M Q := by
      refine x_iload_n (dA D_X12_readPart 40 rfl) rfl ?_
      refine x_if_eqP (tgt := 84) (dA D_X12_readPart 41 rfl) (by decide) ⟨by decide, by decide⟩ ⟨fun c => ?_, fun c => ?_⟩
      · skip
        refine x_iconst (dA D_X12_readPart 46 rfl) ?_
        refine x_callV 11 [vI 1, vI (if x1 ≠ (-1) then x1 else 0), vI 0] [] (dA D_X12_readPart 47 rfl) cw_RX12_266 rfl rfl (Nat.le_of_ble_eq_true rfl) (by decide) rfl hd1 (zk k) (zk n) (sO_67 hS) h (kU (fun M6 h => ?_))
        obtain ⟨hM6, h⟩ := h
        refine x_iconst (dA D_X12_readPart 48 rfl) ?_
        exact x_ireturn (dA D_X12_readPart 49 rfl) rfl h
      · exact absurd (by decide) c
    refine x_icmp_neP (tgt := 71) (dA D_X12_readPart 36 rfl) (by decide) h1 ⟨by decide, by decide⟩ ⟨fun c2 => ?_, fun c2 => ?_⟩
    · refine x_iload_n (dA D_X12_readPart 39 rfl) rfl ?_
      rw [if_pos c2] at hJ
      exact hJ
    · refine x_iconst (dA D_X12_readPart 37 rfl) ?_
      refine x_goto (tgt := 72) (dA D_X12_readPart 38 rfl) (by decide) ?_
      rw [if_neg (by first | omega | grind)] at hJ
      exact hJ
  · have h := h.2 c
    refine x_iload_n (dA D_X12_readPart 29 rfl) rfl ?_
    refine x_if_eqP (tgt := 61) (dA D_X12_readPart 30 rfl) (by decide) ⟨by decide, by decide⟩ ⟨fun c => ?_, fun c => ?_⟩
    · skip
      refine x_iconst (dA D_X12_readPart 33 rfl) ?_
      refine x_iload_n (dA D_X12_readPart 34 rfl) rfl ?_
      refine x_iconst (dA D_X12_readPart 35 rfl) ?_
      have hJ : X G Y_X12_readPart d k n 72 [vA 67, vI x1, vI 0] [vI (if x1 ≠ (-1) then x1 else 0), vI 0, vA 67] M Q := by
        refine x_iload_n (dA D_X12_readPart 40 rfl) rfl ?_
        refine x_if_eqP (tgt := 84) (dA D_X12_readPart 41 rfl) (by decide) ⟨by decide, by decide⟩ ⟨fun c => ?_, fun c => ?_⟩
        · skip
          refine x_iconst (dA D_X12_readPart 46 rfl) ?_
          refine x_callV 11 [vI 0, vI (if x1 ≠ (-1) then x1 else 0), vI 0] [] (dA D_X12_readPart 47 rfl) cw_RX12_266 rfl rfl (Nat.le_of_ble_eq_true rfl) (by decide) rfl hd1 (zk k) (zk n) (sO_67 hS) h (kU (fun M11 h => ?_))
          obtain ⟨hM11, h⟩ := h
          refine x_iconst (dA D_X12_readPart 48 rfl) ?_
          exact x_ireturn (dA D_X12_readPart 49 rfl) rfl h
        · exact absurd (by decide) c
      refine x_icmp_neP (tgt := 71) (dA D_X12_readPart 36 rfl) (by decide) h1 ⟨by decide, by decide⟩ ⟨fun c7 => ?_, fun c7 => ?_⟩
      · refine x_iload_n (dA D_X12_readPart 39 rfl) rfl ?_
        rw [if_pos c7] at hJ
        exact hJ
      · refine x_iconst (dA D_X12_readPart 37 rfl) ?_
        refine x_goto (tgt := 72) (dA D_X12_readPart 38 rfl) (by decide) ?_
        rw [if_neg (by first | omega | grind)] at hJ
        exact hJ
    · exact absurd (by decide) c
set_option maxRecDepth 100000 in
theorem B_X12_readPlain_0 {G : GG} {d : Nat} {k n : Nat} {M : MM} {Q : PV → MM → Prop} (hd : 2 ≤ d) (hS : Sh M) (h : inR (rd M 67 11) ∧ inL (rd M 67 12) ∧ ((¬ (((rd M 67 11) = 1) ∧ ((rd M 67 12) = (14836 : Int))) → ((¬ (((rd M 67 11) = 3) ∧ ((rd M 67 12) = (40 : Int))) → C G Y_X12_readPart (d - 1) 0 0 [vA 67] M (rI (fun r4 M3 => Sh M3 ∧ Q (vI r4) M3))) ∧ (((rd M 67 11) = 3) ∧ ((rd M 67 12) = (40 : Int)) → C G Y_X12_openBracket (d - 1) 0 0 [vA 67, vI 30] M (rU (fun M5 => Sh M5 ∧ Q (vI 0) M5))))) ∧ (((rd M 67 11) = 1) ∧ ((rd M 67 12) = (14836 : Int)) → C G Y_X12_push (d - 1) 0 0 [vA 67, vI 27, vI 0] M (rU (fun M6 => Sh M6 ∧ C G Y_X12_goOn (d - 1) 0 0 [vA 67] M6 (rU (fun M7 => Sh M7 ∧ Q (vI 0) M7))))))) : X G Y_X12_readPlain d k n 0 [vA 67] [] M Q := by
  have hd1 : 1 ≤ d := by omega
  refine x_aload_n (dA D_X12_readPlain 0 rfl) rfl ?_
  refine x_ldc2 (a := 14836) (dA D_X12_readPlain 1 rfl) kl_RX12_270 (by decide) ?_
  obtain ⟨h1, h⟩ := h
  obtain ⟨h2, h⟩ := h
  refine x_callV 11 [vL 14836] [] (dA D_X12_readPlain 2 rfl) cw_RX12_241 rfl rfl (Nat.le_of_ble_eq_true rfl) (by decide) rfl hd1 (zk k) (zk n) (sO_67 hS) (S_X12_isWord hS h1 h2 ⟨by decide, by decide⟩ (by omega) ?_) (kI (fun _ _ h => h))
  show X G Y_X12_readPlain d k n 7 [vA 67] [vI (if ((rd M 67 11) = 1) ∧ ((rd M 67 12) = (14836 : Int)) then 1 else 0)] M Q
  refine x_if_eqB (tgt := 23) (dA D_X12_readPlain 3 rfl) (by decide) ⟨fun c => ?_, fun c => ?_⟩
  · have h := h.1 c
    refine x_aload_n (dA D_X12_readPlain 12 rfl) rfl ?_
    refine x_bipush (dA D_X12_readPlain 13 rfl) (by decide) (by decide) ?_
    refine x_callV 11 [vI 40] [] (dA D_X12_readPlain 14 rfl) cw_RX12_254 rfl rfl (Nat.le_of_ble_eq_true rfl) (by decide) rfl hd1 (zk k) (zk n) (sO_67 hS) (S_X12_isSign hS h1 ⟨by decide, by decide⟩ h2 ⟨by decide, by decide⟩ (by omega) ?_) (kI (fun _ _ h => h))
    show X G Y_X12_readPlain d k n 29 [vA 67] [vI (if ((rd M 67 11) = 3) ∧ ((rd M 67 12) = (40 : Int)) then 1 else 0)] M Q
    refine x_if_eqB (tgt := 40) (dA D_X12_readPlain 15 rfl) (by decide) ⟨fun c => ?_, fun c => ?_⟩
    · have h := h.1 c
      refine x_aload_n (dA D_X12_readPlain 21 rfl) rfl ?_
      refine x_callV 11 [] [] (dA D_X12_readPlain 22 rfl) cw_RX12_272 rfl rfl (Nat.le_of_ble_eq_true rfl) (by decide) rfl hd1 (zk k) (zk n) (sO_67 hS) h (kI (fun r4 M3 h => ?_))
      obtain ⟨hM3, h⟩ := h
      exact x_ireturn (dA D_X12_readPlain 23 rfl) rfl h
    · have h := h.2 c
      refine x_aload_n (dA D_X12_readPlain 16 rfl) rfl ?_
      refine x_bipush (dA D_X12_readPlain 17 rfl) (by decide) (by decide) ?_
      refine x_callV 11 [vI 30] [] (dA D_X12_readPlain 18 rfl) cw_RX12_257 rfl rfl (Nat.le_of_ble_eq_true rfl) (by decide) rfl hd1 (zk k) (zk n) (sO_67 hS) h (kU (fun M5 h => ?_))
      obtain ⟨hM5, h⟩ := h
      refine x_iconst (dA D_X12_readPlain 19 rfl) ?_
      exact x_ireturn (dA D_X12_readPlain 20 rfl) rfl h
  · have h := h.2 c
    refine x_aload_n (dA D_X12_readPlain 4 rfl) rfl ?_
    refine x_bipush (dA D_X12_readPlain 5 rfl) (by decide) (by decide) ?_
    refine x_iconst (dA D_X12_readPlain 6 rfl) ?_
    refine x_callV 11 [vI 27, vI 0] [] (dA D_X12_readPlain 7 rfl) cw_RX12_248 rfl rfl (Nat.le_of_ble_eq_true rfl) (by decide) rfl hd1 (zk k) (zk n) (sO_67 hS) h (kU (fun M6 h => ?_))
    obtain ⟨hM6, h⟩ := h
    refine x_aload_n (dA D_X12_readPlain 8 rfl) rfl ?_
    refine x_callV 11 [] [] (dA D_X12_readPlain 9 rfl) cw_RX12_185 rfl rfl (Nat.le_of_ble_eq_true rfl) (by decide) rfl hd1 (zk k) (zk n) (sO_67 hM6) h (kU (fun M7 h => ?_))
    obtain ⟨hM7, h⟩ := h
    refine x_iconst (dA D_X12_readPlain 10 rfl) ?_
    exact x_ireturn (dA D_X12_readPlain 11 rfl) rfl h
theorem C_X12_readPlain {G : GG} {d : Nat} {M : MM} {Q : PV → MM → Prop} (h : X G Y_X12_readPlain d 0 0 0 [vA 67] [] M Q) : C G Y_X12_readPlain d 0 0 [vA 67] M Q := X.entry (by decide) (Nat.le_of_ble_eq_true rfl) rfl rfl rfl h
set_option maxRecDepth 100000 in
theorem B_X12_behindSum_0 {G : GG} {d : Nat} {k n : Nat} {x1 : Int} {M : MM} {Q : PV → MM → Prop} (hd : 2 ≤ d) (hS : Sh M) (h : inR (rd M 67 11) ∧ inL (rd M 67 12) ∧ ((¬ (((rd M 67 11) = 3) ∧ ((rd M 67 12) = (43 : Int))) → ((¬ (((rd M 67 11) = 3) ∧ ((rd M 67 12) = (45 : Int))) → ((¬ (((rd M 67 11) = 3) ∧ ((rd M 67 12) = (42 : Int))) → ∀ v7, v7 = (if ¬ (((rd M 67 11) = 3) ∧ ((rd M 67 12) = (47 : Int))) then (-1) else 23) → inR v7 ∧ ((v7 = (-1) → C G Y_X12_inner (d - 1) 0 0 [vA 67] M (rI (fun r10 M9 => Sh M9 ∧ inR r10 ∧ ((r10 ≠ 31 → inR x1 ∧ ((((r10 ≠ (-1)) ∨ (x1 ≠ 0)) → X G Y_X12_behindSum d k n 149 [vA 67, vI x1, vI v7, vI r10] [] M9 Q) ∧ (¬ ((r10 ≠ (-1)) ∨ (x1 ≠ 0)) → Q (vI 4) M9))) ∧ (r10 = 31 → inR (rd M9 67 11) ∧ inL (rd M9 67 12) ∧ C G Y_X12_must (d - 1) 0 0 [vA 67, vI (if ((rd M9 67 11) = 3) ∧ ((rd M9 67 12) = (93 : Int)) then 1 else 0)] M9 (rU (fun M21 => Sh M21 ∧ inR (rd M21 67 14) ∧ (((rd M21 67 14) ≠ 0 → Q (vI 3) M21) ∧ ((rd M21 67 14) = 0 → C G Y_X12_settle (d - 1) 0 0 [vA 67, vI 5] M21 (rU (fun M23 => Sh M23 ∧ ∀ M24, M24 = wr M23 67 23 ((rd M23 67 23) - 1) → Sh M24 → ∀ M25, M25 = wr M24 67 24 ((rd M24 67 24) - 1) → Sh M25 → Q (vI 3) M25))))))))))) ∧ (v7 ≠ (-1) → C G Y_X12_settle (d - 1) 0 0 [vA 67, vI (if v7 < 30 then (if v7 ≠ 29 then (if v7 ≠ 28 then (if v7 ≠ 27 then (if v7 < 24 then (if v7 < 22 then 5 else 6) else 4) else 3) else 2) else 1) else 0)] M (rU (fun M26 => Sh M26 ∧ C G Y_X12_push (d - 1) 0 0 [vA 67, vI v7, vI 0] M26 (rU (fun M27 => Sh M27 ∧ C G Y_X12_goOn (d - 1) 0 0 [vA 67] M27 (rU (fun M28 => Sh M28 ∧ Q (vI 1) M28))))))))) ∧ (((rd M 67 11) = 3) ∧ ((rd M 67 12) = (42 : Int)) → C G Y_X12_settle (d - 1) 0 0 [vA 67, vI (if (22 : Int) < 30 then (if (22 : Int) ≠ 29 then (if (22 : Int) ≠ 28 then (if (22 : Int) ≠ 27 then (if (22 : Int) < 24 then (if (22 : Int) < 22 then 5 else 6) else 4) else 3) else 2) else 1) else 0)] M (rU (fun M29 => Sh M29 ∧ C G Y_X12_push (d - 1) 0 0 [vA 67, vI 22, vI 0] M29 (rU (fun M30 => Sh M30 ∧ C G Y_X12_goOn (d - 1) 0 0 [vA 67] M30 (rU (fun M31 => Sh M31 ∧ Q (vI 1) M31))))))))) ∧ (((rd M 67 11) = 3) ∧ ((rd M 67 12) = (45 : Int)) → C G Y_X12_settle (d - 1) 0 0 [vA 67, vI (if (21 : Int) < 30 then (if (21 : Int) ≠ 29 then (if (21 : Int) ≠ 28 then (if (21 : Int) ≠ 27 then (if (21 : Int) < 24 then (if (21 : Int) < 22 then 5 else 6) else 4) else 3) else 2) else 1) else 0)] M (rU (fun M32 => Sh M32 ∧ C G Y_X12_push (d - 1) 0 0 [vA 67, vI 21, vI 0] M32 (rU (fun M33 => Sh M33 ∧ C G Y_X12_goOn (d - 1) 0 0 [vA 67] M33 (rU (fun M34 => Sh M34 ∧ Q (vI 1) M34))))))))) ∧ (((rd M 67 11) = 3) ∧ ((rd M 67 12) = (43 : Int)) → C G Y_X12_settle (d - 1) 0 0 [vA 67, vI (if (20 : Int) < 30 then (if (20 : Int) ≠ 29 then (if (20 : Int) ≠ 28 then (if (20 : Int) ≠ 27 then (if (20 : Int) < 24 then (if (20 : Int) < 22 then 5 else 6) else 4) else 3) else 2) else 1) else 0)] M (rU (fun M35 => Sh M35 ∧ C G Y_X12_push (d - 1) 0 0 [vA 67, vI 20, vI 0] M35 (rU (fun M36 => Sh M36 ∧ C G Y_X12_goOn (d - 1) 0 0 [vA 67] M36 (rU (fun M37 => Sh M37 ∧ Q (vI 1) M37))))))))) : X G Y_X12_behindSum d k n 0 [vA 67, vI x1, vU, vU] [] M Q := by
  have hd1 : 1 ≤ d := by omega
  refine x_aload_n (dA D_X12_behindSum 0 rfl) rfl ?_
  refine x_bipush (dA D_X12_behindSum 1 rfl) (by decide) (by decide) ?_
  obtain ⟨h1, h⟩ := h
  obtain ⟨h2, h⟩ := h
  refine x_callV 11 [vI 43] [] (dA D_X12_behindSum 2 rfl) cw_RX12_254 rfl rfl (Nat.le_of_ble_eq_true rfl) (by decide) rfl hd1 (zk k) (zk n) (sO_67 hS) (S_X12_isSign hS h1 ⟨by decide, by decide⟩ h2 ⟨by decide, by decide⟩ (by omega) ?_) (kI (fun _ _ h => h))
  show X G Y_X12_behindSum d k n 6 [vA 67, vI x1, vU, vU] [vI (if ((rd M 67 11) = 3) ∧ ((rd M 67 12) = (43 : Int)) then 1 else 0)] M Q
  refine x_if_eqB (tgt := 14) (dA D_X12_behindSum 3 rfl) (by decide) ⟨fun c => ?_, fun c => ?_⟩
  · have h := h.1 c
    refine x_aload_n (dA D_X12_behindSum 6 rfl) rfl ?_
    refine x_bipush (dA D_X12_behindSum 7 rfl) (by decide) (by decide) ?_
    refine x_callV 11 [vI 45] [] (dA D_X12_behindSum 8 rfl) cw_RX12_254 rfl rfl (Nat.le_of_ble_eq_true rfl) (by decide) rfl hd1 (zk k) (zk n) (sO_67 hS) (S_X12_isSign hS h1 ⟨by decide, by decide⟩ h2 ⟨by decide, by decide⟩ (by omega) ?_) (kI (fun _ _ h => h))
    show X G Y_X12_behindSum d k n 20 [vA 67, vI x1, vU, vU] [vI (if ((rd M 67 11) = 3) ∧ ((rd M 67 12) = (45 : Int)) then 1 else 0)] M Q
    refine x_if_eqB (tgt := 28) (dA D_X12_behindSum 9 rfl) (by decide) ⟨fun c => ?_, fun c => ?_⟩
    · have h := h.1 c
      refine x_aload_n (dA D_X12_behindSum 12 rfl) rfl ?_
      refine x_bipush (dA D_X12_behindSum 13 rfl) (by decide) (by decide) ?_
      refine x_callV 11 [vI 42] [] (dA D_X12_behindSum 14 rfl) cw_RX12_254 rfl rfl (Nat.le_of_ble_eq_true rfl) (by decide) rfl hd1 (zk k) (zk n) (sO_67 hS) (S_X12_isSign hS h1 ⟨by decide, by decide⟩ h2 ⟨by decide, by decide⟩ (by omega) ?_) (kI (fun _ _ h => h))
      show X G Y_X12_behindSum d k n 34 [vA 67, vI x1, vU, vU] [vI (if ((rd M 67 11) = 3) ∧ ((rd M 67 12) = (42 : Int)) then 1 else 0)] M Q
      refine x_if_eqB (tgt := 42) (dA D_X12_behindSum 15 rfl) (by decide) ⟨fun c => ?_, fun c => ?_⟩
      · have h := h.1 c
        refine x_aload_n (dA D_X12_behindSum 18 rfl) rfl ?_
        refine x_bipush (dA D_X12_behindSum 19 rfl) (by decide) (by decide) ?_
        refine x_callV 11 [vI 47] [] (dA D_X12_behindSum 20 rfl) cw_RX12_254 rfl rfl (Nat.le_of_ble_eq_true rfl) (by decide) rfl hd1 (zk k) (zk n) (sO_67 hS) (S_X12_isSign hS h1 ⟨by decide, by decide⟩ h2 ⟨by decide, by decide⟩ (by omega) ?_) (kI (fun _ _ h => h))
        show X G Y_X12_behindSum d k n 48 [vA 67, vI x1, vU, vU] [vI (if ((rd M 67 11) = 3) ∧ ((rd M 67 12) = (47 : Int)) then 1 else 0)] M Q
        have hJ : X G Y_X12_behindSum d k n 57 [vA 67, vI x1, vU, vU] [vI (if ¬ (((rd M 67 11) = 3) ∧ ((rd M 67 12) = (47 : Int))) then (-1) else 23)] M Q := by
          refine x_nmI (fun v7 ev7 => ?_)
          have h := h v7 ev7
          refine x_istore_n (xs' := [vA 67, vI x1, vI v7, vU]) (dA D_X12_behindSum 25 rfl) (by decide) rfl ?_
          refine x_iload_n (dA D_X12_behindSum 26 rfl) rfl ?_
          refine x_iconst (dA D_X12_behindSum 27 rfl) ?_
          obtain ⟨h8, h⟩ := h
          refine x_icmp_eqP (tgt := 83) (dA D_X12_behindSum 28 rfl) (by decide) h8 ⟨by decide, by decide⟩ ⟨fun c => ?_, fun c => ?_⟩
          · have h := h.1 c
            refine x_aload_n (dA D_X12_behindSum 41 rfl) rfl ?_
            refine x_callV 11 [] [] (dA D_X12_behindSum 42 rfl) cw_RX12_278 rfl rfl (Nat.le_of_ble_eq_true rfl) (by decide) rfl hd1 (zk k) (zk n) (sO_67 hS) h (kI (fun r10 M9 h => ?_))
            obtain ⟨hM9, h⟩ := h
            refine x_istore_n (xs' := [vA 67, vI x1, vI v7, vI r10]) (dA D_X12_behindSum 43 rfl) (by decide) rfl ?_
            refine x_iload_n (dA D_X12_behindSum 44 rfl) rfl ?_
            refine x_bipush (dA D_X12_behindSum 45 rfl) (by decide) (by decide) ?_
            obtain ⟨h11, h⟩ := h
            refine x_icmp_neP (tgt := 138) (dA D_X12_behindSum 46 rfl) (by decide) h11 ⟨by decide, by decide⟩ ⟨fun c => ?_, fun c => ?_⟩
            · have h := h.1 c
              refine x_iload_n (dA D_X12_behindSum 72 rfl) rfl ?_
              refine x_iconst (dA D_X12_behindSum 73 rfl) ?_
              obtain ⟨h15, h⟩ := h
              have hA : ((r10 ≠ (-1)) ∨ (x1 ≠ 0)) → X G Y_X12_behindSum d k n 149 [vA 67, vI x1, vI v7, vI r10] [] M9 Q := by
                intro c18
                have h := h.1 c18
                exact h
              have hB : ¬ ((r10 ≠ (-1)) ∨ (x1 ≠ 0)) → X G Y_X12_behindSum d k n 147 [vA 67, vI x1, vI v7, vI r10] [] M9 Q := by
                intro c18
                have h := h.2 c18
                refine x_iconst (dA D_X12_behindSum 77 rfl) ?_
                exact x_ireturn (dA D_X12_behindSum 78 rfl) rfl h
              refine x_icmp_neP (tgt := 149) (dA D_X12_behindSum 74 rfl) (by decide) h11 ⟨by decide, by decide⟩ ⟨fun c12 => ?_, fun c12 => ?_⟩
              · exact hA (by first | omega | grind)
              · refine x_iload_n (dA D_X12_behindSum 75 rfl) rfl ?_
                refine x_if_neP (tgt := 149) (dA D_X12_behindSum 76 rfl) (by decide) h15 ⟨fun c14 => ?_, fun c14 => ?_⟩
                · exact hA (by first | omega | grind)
                · exact hB (by first | omega | grind)
            · have h := h.2 c
              refine x_aload_n (dA D_X12_behindSum 47 rfl) rfl ?_
              refine x_aload_n (dA D_X12_behindSum 48 rfl) rfl ?_
              refine x_bipush (dA D_X12_behindSum 49 rfl) (by decide) (by decide) ?_
              obtain ⟨h19, h⟩ := h
              obtain ⟨h20, h⟩ := h
              refine x_callV 11 [vI 93] [vA 67] (dA D_X12_behindSum 50 rfl) cw_RX12_254 rfl rfl (Nat.le_of_ble_eq_true rfl) (by decide) rfl hd1 (zk k) (zk n) (sO_67 hM9) (S_X12_isSign hM9 h19 ⟨by decide, by decide⟩ h20 ⟨by decide, by decide⟩ (by omega) ?_) (kI (fun _ _ h => h))
              show X G Y_X12_behindSum d k n 101 [vA 67, vI x1, vI v7, vI r10] [vI (if ((rd M9 67 11) = 3) ∧ ((rd M9 67 12) = (93 : Int)) then 1 else 0), vA 67] M9 Q
              refine x_callV 11 [vI (if ((rd M9 67 11) = 3) ∧ ((rd M9 67 12) = (93 : Int)) then 1 else 0)] [] (dA D_X12_behindSum 51 rfl) cw_RX12_216 rfl rfl (Nat.le_of_ble_eq_true rfl) (by decide) rfl hd1 (zk k) (zk n) (sO_67 hM9) h (kU (fun M21 h => ?_))
              obtain ⟨hM21, h⟩ := h
              refine x_aload_n (dA D_X12_behindSum 52 rfl) rfl ?_
              refine x_get (v := vI (rd M21 67 14)) (dA D_X12_behindSum 53 rfl) fw_RX12_181 (sO_67 hM21) rfl ?_
              obtain ⟨h22, h⟩ := h
              refine x_if_neP (tgt := 136) (dA D_X12_behindSum 54 rfl) (by decide) h22 ⟨fun c => ?_, fun c => ?_⟩
              · have h := h.1 c
                refine x_iconst (dA D_X12_behindSum 70 rfl) ?_
                exact x_ireturn (dA D_X12_behindSum 71 rfl) rfl h
              · have h := h.2 c
                refine x_aload_n (dA D_X12_behindSum 55 rfl) rfl ?_
                refine x_iconst (dA D_X12_behindSum 56 rfl) ?_
                refine x_callV 11 [vI 5] [] (dA D_X12_behindSum 57 rfl) cw_RX12_275 rfl rfl (Nat.le_of_ble_eq_true rfl) (by decide) rfl hd1 (zk k) (zk n) (sO_67 hM21) h (kU (fun M23 h => ?_))
                obtain ⟨hM23, h⟩ := h
                refine x_aload_n (dA D_X12_behindSum 58 rfl) rfl ?_
                refine x_dup (dA D_X12_behindSum 59 rfl) rfl ?_
                refine x_get (v := vI (rd M23 67 23)) (dA D_X12_behindSum 60 rfl) fw_RX12_223 (sO_67 hM23) rfl ?_
                refine x_iconst (dA D_X12_behindSum 61 rfl) ?_
                refine x_isub (dA D_X12_behindSum 62 rfl) ?_
                refine x_put (x := (rd M23 67 23) - 1) (dA D_X12_behindSum 63 rfl) fw_RX12_223 (fun _ _ hc => by cases hc; exact Or.inl rfl) (sO_67 hM23) rfl rfl rfl ?_
                refine x_nmM (fun M24 eM24 => ?_)
                have hM24 : Sh M24 := eM24 ▸ (sW_67_23 hM23)
                have h := h M24 eM24 hM24
                refine x_aload_n (dA D_X12_behindSum 64 rfl) rfl ?_
                refine x_dup (dA D_X12_behindSum 65 rfl) rfl ?_
                refine x_get (v := vI (rd M24 67 24)) (dA D_X12_behindSum 66 rfl) fw_RX12_245 (sO_67 hM24) rfl ?_
                refine x_iconst (dA D_X12_behindSum 67 rfl) ?_
                refine x_isub (dA D_X12_behindSum 68 rfl) ?_
                refine x_put (x := (rd M24 67 24) - 1) (dA D_X12_behindSum 69 rfl) fw_RX12_245 (fun _ _ hc => by cases hc; exact Or.inl rfl) (sO_67 hM24) rfl rfl rfl ?_
                refine x_nmM (fun M25 eM25 => ?_)
                have hM25 : Sh M25 := eM25 ▸ (sW_67_24 hM24)
                have h := h M25 eM25 hM25
                refine x_iconst (dA D_X12_behindSum 70 rfl) ?_
                exact x_ireturn (dA D_X12_behindSum 71 rfl) rfl h
          · have h := h.2 c
            refine x_aload_n (dA D_X12_behindSum 29 rfl) rfl ?_
            refine x_iload_n (dA D_X12_behindSum 30 rfl) rfl ?_
            refine x_callS [vI v7] [vA 67] (dA D_X12_behindSum 31 rfl) cw_RX12_226 rfl rfl (Nat.le_of_ble_eq_true rfl) hd1 (zk k) (zk n) (S_X12_binds h8 (by omega) ?_) (kI (fun _ _ h => h))
            show X G Y_X12_behindSum d k n 68 [vA 67, vI x1, vI v7, vU] [vI (if v7 < 30 then (if v7 ≠ 29 then (if v7 ≠ 28 then (if v7 ≠ 27 then (if v7 < 24 then (if v7 < 22 then 5 else 6) else 4) else 3) else 2) else 1) else 0), vA 67] M Q
            refine x_callV 11 [vI (if v7 < 30 then (if v7 ≠ 29 then (if v7 ≠ 28 then (if v7 ≠ 27 then (if v7 < 24 then (if v7 < 22 then 5 else 6) else 4) else 3) else 2) else 1) else 0)] [] (dA D_X12_behindSum 32 rfl) cw_RX12_275 rfl rfl (Nat.le_of_ble_eq_true rfl) (by decide) rfl hd1 (zk k) (zk n) (sO_67 hS) h (kU (fun M26 h => ?_))
            obtain ⟨hM26, h⟩ := h
            refine x_aload_n (dA D_X12_behindSum 33 rfl) rfl ?_
            refine x_iload_n (dA D_X12_behindSum 34 rfl) rfl ?_
            refine x_iconst (dA D_X12_behindSum 35 rfl) ?_
            refine x_callV 11 [vI v7, vI 0] [] (dA D_X12_behindSum 36 rfl) cw_RX12_248 rfl rfl (Nat.le_of_ble_eq_true rfl) (by decide) rfl hd1 (zk k) (zk n) (sO_67 hM26) h (kU (fun M27 h => ?_))
            obtain ⟨hM27, h⟩ := h
            refine x_aload_n (dA D_X12_behindSum 37 rfl) rfl ?_
            refine x_callV 11 [] [] (dA D_X12_behindSum 38 rfl) cw_RX12_185 rfl rfl (Nat.le_of_ble_eq_true rfl) (by decide) rfl hd1 (zk k) (zk n) (sO_67 hM27) h (kU (fun M28 h => ?_))
            obtain ⟨hM28, h⟩ := h
            refine x_iconst (dA D_X12_behindSum 39 rfl) ?_
            exact x_ireturn (dA D_X12_behindSum 40 rfl) rfl h
        refine x_if_eqB (tgt := 56) (dA D_X12_behindSum 21 rfl) (by decide) ⟨fun c3 => ?_, fun c3 => ?_⟩
        · refine x_iconst (dA D_X12_behindSum 24 rfl) ?_
          rw [if_pos c3] at hJ
          exact hJ
        · refine x_bipush (dA D_X12_behindSum 22 rfl) (by decide) (by decide) ?_
          refine x_goto (tgt := 57) (dA D_X12_behindSum 23 rfl) (by decide) ?_
          rw [if_neg (by first | omega | grind)] at hJ
          exact hJ
      · have h := h.2 c
        refine x_bipush (dA D_X12_behindSum 16 rfl) (by decide) (by decide) ?_
        refine x_goto (tgt := 57) (dA D_X12_behindSum 17 rfl) (by decide) ?_
        refine x_istore_n (xs' := [vA 67, vI x1, vI 22, vU]) (dA D_X12_behindSum 25 rfl) (by decide) rfl ?_
        refine x_iload_n (dA D_X12_behindSum 26 rfl) rfl ?_
        refine x_iconst (dA D_X12_behindSum 27 rfl) ?_
        refine x_icmp_eqP (tgt := 83) (dA D_X12_behindSum 28 rfl) (by decide) ⟨by decide, by decide⟩ ⟨by decide, by decide⟩ ⟨fun c => ?_, fun c => ?_⟩
        · exact absurd c (by decide)
        · skip
          refine x_aload_n (dA D_X12_behindSum 29 rfl) rfl ?_
          refine x_iload_n (dA D_X12_behindSum 30 rfl) rfl ?_
          refine x_callS [vI 22] [vA 67] (dA D_X12_behindSum 31 rfl) cw_RX12_226 rfl rfl (Nat.le_of_ble_eq_true rfl) hd1 (zk k) (zk n) (S_X12_binds ⟨by decide, by decide⟩ (by omega) ?_) (kI (fun _ _ h => h))
          show X G Y_X12_behindSum d k n 68 [vA 67, vI x1, vI 22, vU] [vI (if (22 : Int) < 30 then (if (22 : Int) ≠ 29 then (if (22 : Int) ≠ 28 then (if (22 : Int) ≠ 27 then (if (22 : Int) < 24 then (if (22 : Int) < 22 then 5 else 6) else 4) else 3) else 2) else 1) else 0), vA 67] M Q
          refine x_callV 11 [vI (if (22 : Int) < 30 then (if (22 : Int) ≠ 29 then (if (22 : Int) ≠ 28 then (if (22 : Int) ≠ 27 then (if (22 : Int) < 24 then (if (22 : Int) < 22 then 5 else 6) else 4) else 3) else 2) else 1) else 0)] [] (dA D_X12_behindSum 32 rfl) cw_RX12_275 rfl rfl (Nat.le_of_ble_eq_true rfl) (by decide) rfl hd1 (zk k) (zk n) (sO_67 hS) h (kU (fun M29 h => ?_))
          obtain ⟨hM29, h⟩ := h
          refine x_aload_n (dA D_X12_behindSum 33 rfl) rfl ?_
          refine x_iload_n (dA D_X12_behindSum 34 rfl) rfl ?_
          refine x_iconst (dA D_X12_behindSum 35 rfl) ?_
          refine x_callV 11 [vI 22, vI 0] [] (dA D_X12_behindSum 36 rfl) cw_RX12_248 rfl rfl (Nat.le_of_ble_eq_true rfl) (by decide) rfl hd1 (zk k) (zk n) (sO_67 hM29) h (kU (fun M30 h => ?_))
          obtain ⟨hM30, h⟩ := h
          refine x_aload_n (dA D_X12_behindSum 37 rfl) rfl ?_
          refine x_callV 11 [] [] (dA D_X12_behindSum 38 rfl) cw_RX12_185 rfl rfl (Nat.le_of_ble_eq_true rfl) (by decide) rfl hd1 (zk k) (zk n) (sO_67 hM30) h (kU (fun M31 h => ?_))
          obtain ⟨hM31, h⟩ := h
          refine x_iconst (dA D_X12_behindSum 39 rfl) ?_
          exact x_ireturn (dA D_X12_behindSum 40 rfl) rfl h
    · have h := h.2 c
      refine x_bipush (dA D_X12_behindSum 10 rfl) (by decide) (by decide) ?_
      refine x_goto (tgt := 57) (dA D_X12_behindSum 11 rfl) (by decide) ?_
      refine x_istore_n (xs' := [vA 67, vI x1, vI 21, vU]) (dA D_X12_behindSum 25 rfl) (by decide) rfl ?_
      refine x_iload_n (dA D_X12_behindSum 26 rfl) rfl ?_
      refine x_iconst (dA D_X12_behindSum 27 rfl) ?_
      refine x_icmp_eqP (tgt := 83) (dA D_X12_behindSum 28 rfl) (by decide) ⟨by decide, by decide⟩ ⟨by decide, by decide⟩ ⟨fun c => ?_, fun c => ?_⟩
      · exact absurd c (by decide)
      · skip
        refine x_aload_n (dA D_X12_behindSum 29 rfl) rfl ?_
        refine x_iload_n (dA D_X12_behindSum 30 rfl) rfl ?_
        refine x_callS [vI 21] [vA 67] (dA D_X12_behindSum 31 rfl) cw_RX12_226 rfl rfl (Nat.le_of_ble_eq_true rfl) hd1 (zk k) (zk n) (S_X12_binds ⟨by decide, by decide⟩ (by omega) ?_) (kI (fun _ _ h => h))
        show X G Y_X12_behindSum d k n 68 [vA 67, vI x1, vI 21, vU] [vI (if (21 : Int) < 30 then (if (21 : Int) ≠ 29 then (if (21 : Int) ≠ 28 then (if (21 : Int) ≠ 27 then (if (21 : Int) < 24 then (if (21 : Int) < 22 then 5 else 6) else 4) else 3) else 2) else 1) else 0), vA 67] M Q
        refine x_callV 11 [vI (if (21 : Int) < 30 then (if (21 : Int) ≠ 29 then (if (21 : Int) ≠ 28 then (if (21 : Int) ≠ 27 then (if (21 : Int) < 24 then (if (21 : Int) < 22 then 5 else 6) else 4) else 3) else 2) else 1) else 0)] [] (dA D_X12_behindSum 32 rfl) cw_RX12_275 rfl rfl (Nat.le_of_ble_eq_true rfl) (by decide) rfl hd1 (zk k) (zk n) (sO_67 hS) h (kU (fun M32 h => ?_))
        obtain ⟨hM32, h⟩ := h
        refine x_aload_n (dA D_X12_behindSum 33 rfl) rfl ?_
        refine x_iload_n (dA D_X12_behindSum 34 rfl) rfl ?_
        refine x_iconst (dA D_X12_behindSum 35 rfl) ?_
        refine x_callV 11 [vI 21, vI 0] [] (dA D_X12_behindSum 36 rfl) cw_RX12_248 rfl rfl (Nat.le_of_ble_eq_true rfl) (by decide) rfl hd1 (zk k) (zk n) (sO_67 hM32) h (kU (fun M33 h => ?_))
        obtain ⟨hM33, h⟩ := h
        refine x_aload_n (dA D_X12_behindSum 37 rfl) rfl ?_
        refine x_callV 11 [] [] (dA D_X12_behindSum 38 rfl) cw_RX12_185 rfl rfl (Nat.le_of_ble_eq_true rfl) (by decide) rfl hd1 (zk k) (zk n) (sO_67 hM33) h (kU (fun M34 h => ?_))
        obtain ⟨hM34, h⟩ := h
        refine x_iconst (dA D_X12_behindSum 39 rfl) ?_
        exact x_ireturn (dA D_X12_behindSum 40 rfl) rfl h
  · have h := h.2 c
    refine x_bipush (dA D_X12_behindSum 4 rfl) (by decide) (by decide) ?_
    refine x_goto (tgt := 57) (dA D_X12_behindSum 5 rfl) (by decide) ?_
    refine x_istore_n (xs' := [vA 67, vI x1, vI 20, vU]) (dA D_X12_behindSum 25 rfl) (by decide) rfl ?_
    refine x_iload_n (dA D_X12_behindSum 26 rfl) rfl ?_
    refine x_iconst (dA D_X12_behindSum 27 rfl) ?_
    refine x_icmp_eqP (tgt := 83) (dA D_X12_behindSum 28 rfl) (by decide) ⟨by decide, by decide⟩ ⟨by decide, by decide⟩ ⟨fun c => ?_, fun c => ?_⟩
    · exact absurd c (by decide)
    · skip
      refine x_aload_n (dA D_X12_behindSum 29 rfl) rfl ?_
      refine x_iload_n (dA D_X12_behindSum 30 rfl) rfl ?_
      refine x_callS [vI 20] [vA 67] (dA D_X12_behindSum 31 rfl) cw_RX12_226 rfl rfl (Nat.le_of_ble_eq_true rfl) hd1 (zk k) (zk n) (S_X12_binds ⟨by decide, by decide⟩ (by omega) ?_) (kI (fun _ _ h => h))
      show X G Y_X12_behindSum d k n 68 [vA 67, vI x1, vI 20, vU] [vI (if (20 : Int) < 30 then (if (20 : Int) ≠ 29 then (if (20 : Int) ≠ 28 then (if (20 : Int) ≠ 27 then (if (20 : Int) < 24 then (if (20 : Int) < 22 then 5 else 6) else 4) else 3) else 2) else 1) else 0), vA 67] M Q
      refine x_callV 11 [vI (if (20 : Int) < 30 then (if (20 : Int) ≠ 29 then (if (20 : Int) ≠ 28 then (if (20 : Int) ≠ 27 then (if (20 : Int) < 24 then (if (20 : Int) < 22 then 5 else 6) else 4) else 3) else 2) else 1) else 0)] [] (dA D_X12_behindSum 32 rfl) cw_RX12_275 rfl rfl (Nat.le_of_ble_eq_true rfl) (by decide) rfl hd1 (zk k) (zk n) (sO_67 hS) h (kU (fun M35 h => ?_))
      obtain ⟨hM35, h⟩ := h
      refine x_aload_n (dA D_X12_behindSum 33 rfl) rfl ?_
      refine x_iload_n (dA D_X12_behindSum 34 rfl) rfl ?_
      refine x_iconst (dA D_X12_behindSum 35 rfl) ?_
      refine x_callV 11 [vI 20, vI 0] [] (dA D_X12_behindSum 36 rfl) cw_RX12_248 rfl rfl (Nat.le_of_ble_eq_true rfl) (by decide) rfl hd1 (zk k) (zk n) (sO_67 hM35) h (kU (fun M36 h => ?_))
      obtain ⟨hM36, h⟩ := h
      refine x_aload_n (dA D_X12_behindSum 37 rfl) rfl ?_
      refine x_callV 11 [] [] (dA D_X12_behindSum 38 rfl) cw_RX12_185 rfl rfl (Nat.le_of_ble_eq_true rfl) (by decide) rfl hd1 (zk k) (zk n) (sO_67 hM36) h (kU (fun M37 h => ?_))
      obtain ⟨hM37, h⟩ := h
      refine x_iconst (dA D_X12_behindSum 39 rfl) ?_
      exact x_ireturn (dA D_X12_behindSum 40 rfl) rfl h
theorem C_X12_behindSum {G : GG} {d : Nat} {x1 : Int} {M : MM} {Q : PV → MM → Prop} (h : X G Y_X12_behindSum d 0 0 0 [vA 67, vI x1, vU, vU] [] M Q) : C G Y_X12_behindSum d 0 0 [vA 67, vI x1] M Q := X.entry (by decide) (Nat.le_of_ble_eq_true rfl) rfl rfl rfl h
set_option maxRecDepth 100000 in
theorem B_X12_behindSum_149 {G : GG} {d : Nat} {k n : Nat} {x1 x2 x3 : Int} {M : MM} {Q : PV → MM → Prop} (hd : 2 ≤ d) (hS : Sh M) (h : C G Y_X12_isCompared (d - 1) 0 0 [vA 67] M (rI (fun r2 M1 => Sh M1 ∧ inR r2 ∧ ((r2 = 0 → inR (rd M1 67 11) ∧ inL (rd M1 67 12) ∧ ((¬ (((rd M1 67 11) = 3) ∧ ((rd M1 67 12) = (60 : Int))) → ∀ v10, v10 = (if ¬ (((rd M1 67 11) = 3) ∧ ((rd M1 67 12) = (62 : Int))) then 26 else 25) → inR v10 ∧ ((v10 ≠ 26 → C G Y_X12_must (d - 1) 0 0 [vA 67, vI 1] M1 (rU (fun M12 => Sh M12 ∧ inR (rd M12 67 14) ∧ (((rd M12 67 14) ≠ 0 → Q (vI 1) M12) ∧ ((rd M12 67 14) = 0 → C G Y_X12_settle (d - 1) 0 0 [vA 67, vI 5] M12 (rU (fun M14 => Sh M14 ∧ C G Y_X12_push (d - 1) 0 0 [vA 67, vI v10, vI 0] M14 (rU (fun M15 => Sh M15 ∧ Q (vI 1) M15))))))))) ∧ (v10 = 26 → C G Y_X12_must (d - 1) 0 0 [vA 67, vI (if ((rd M1 67 11) = 3) ∧ ((rd M1 67 12) = (61 : Int)) then 1 else 0)] M1 (rU (fun M20 => Sh M20 ∧ inR (rd M20 67 14) ∧ (((rd M20 67 14) ≠ 0 → Q (vI 1) M20) ∧ ((rd M20 67 14) = 0 → C G Y_X12_settle (d - 1) 0 0 [vA 67, vI 5] M20 (rU (fun M22 => Sh M22 ∧ C G Y_X12_push (d - 1) 0 0 [vA 67, vI v10, vI 0] M22 (rU (fun M23 => Sh M23 ∧ Q (vI 1) M23))))))))))) ∧ (((rd M1 67 11) = 3) ∧ ((rd M1 67 12) = (60 : Int)) → C G Y_X12_must (d - 1) 0 0 [vA 67, vI 1] M1 (rU (fun M24 => Sh M24 ∧ inR (rd M24 67 14) ∧ (((rd M24 67 14) ≠ 0 → Q (vI 1) M24) ∧ ((rd M24 67 14) = 0 → C G Y_X12_settle (d - 1) 0 0 [vA 67, vI 5] M24 (rU (fun M26 => Sh M26 ∧ C G Y_X12_push (d - 1) 0 0 [vA 67, vI 24, vI 0] M26 (rU (fun M27 => Sh M27 ∧ Q (vI 1) M27))))))))))) ∧ (r2 ≠ 0 → Q (vI 2) M1))))) : X G Y_X12_behindSum d k n 149 [vA 67, vI x1, vI x2, vI x3] [] M Q := by
  have hd1 : 1 ≤ d := by omega
  refine x_aload_n (dA D_X12_behindSum 79 rfl) rfl ?_
  refine x_callV 11 [] [] (dA D_X12_behindSum 80 rfl) cw_RX12_280 rfl rfl (Nat.le_of_ble_eq_true rfl) (by decide) rfl hd1 (zk k) (zk n) (sO_67 hS) h (kI (fun r2 M1 h => ?_))
  obtain ⟨hM1, h⟩ := h
  obtain ⟨h3, h⟩ := h
  refine x_if_eqP (tgt := 158) (dA D_X12_behindSum 81 rfl) (by decide) h3 ⟨fun c => ?_, fun c => ?_⟩
  · have h := h.1 c
    refine x_aload_n (dA D_X12_behindSum 84 rfl) rfl ?_
    refine x_bipush (dA D_X12_behindSum 85 rfl) (by decide) (by decide) ?_
    obtain ⟨h4, h⟩ := h
    obtain ⟨h5, h⟩ := h
    refine x_callV 11 [vI 60] [] (dA D_X12_behindSum 86 rfl) cw_RX12_254 rfl rfl (Nat.le_of_ble_eq_true rfl) (by decide) rfl hd1 (zk k) (zk n) (sO_67 hM1) (S_X12_isSign hM1 h4 ⟨by decide, by decide⟩ h5 ⟨by decide, by decide⟩ (by omega) ?_) (kI (fun _ _ h => h))
    show X G Y_X12_behindSum d k n 164 [vA 67, vI x1, vI x2, vI x3] [vI (if ((rd M1 67 11) = 3) ∧ ((rd M1 67 12) = (60 : Int)) then 1 else 0)] M1 Q
    refine x_if_eqB (tgt := 172) (dA D_X12_behindSum 87 rfl) (by decide) ⟨fun c => ?_, fun c => ?_⟩
    · have h := h.1 c
      refine x_aload_n (dA D_X12_behindSum 90 rfl) rfl ?_
      refine x_bipush (dA D_X12_behindSum 91 rfl) (by decide) (by decide) ?_
      refine x_callV 11 [vI 62] [] (dA D_X12_behindSum 92 rfl) cw_RX12_254 rfl rfl (Nat.le_of_ble_eq_true rfl) (by decide) rfl hd1 (zk k) (zk n) (sO_67 hM1) (S_X12_isSign hM1 h4 ⟨by decide, by decide⟩ h5 ⟨by decide, by decide⟩ (by omega) ?_) (kI (fun _ _ h => h))
      show X G Y_X12_behindSum d k n 178 [vA 67, vI x1, vI x2, vI x3] [vI (if ((rd M1 67 11) = 3) ∧ ((rd M1 67 12) = (62 : Int)) then 1 else 0)] M1 Q
      have hJ : X G Y_X12_behindSum d k n 188 [vA 67, vI x1, vI x2, vI x3] [vI (if ¬ (((rd M1 67 11) = 3) ∧ ((rd M1 67 12) = (62 : Int))) then 26 else 25)] M1 Q := by
        refine x_nmI (fun v10 ev10 => ?_)
        have h := h v10 ev10
        refine x_istore_n (xs' := [vA 67, vI x1, vI v10, vI x3]) (dA D_X12_behindSum 97 rfl) (by decide) rfl ?_
        refine x_aload_n (dA D_X12_behindSum 98 rfl) rfl ?_
        refine x_iload_n (dA D_X12_behindSum 99 rfl) rfl ?_
        refine x_bipush (dA D_X12_behindSum 100 rfl) (by decide) (by decide) ?_
        obtain ⟨h11, h⟩ := h
        refine x_icmp_neP (tgt := 205) (dA D_X12_behindSum 101 rfl) (by decide) h11 ⟨by decide, by decide⟩ ⟨fun c => ?_, fun c => ?_⟩
        · have h := h.1 c
          refine x_iconst (dA D_X12_behindSum 106 rfl) ?_
          refine x_goto (tgt := 210) (dA D_X12_behindSum 107 rfl) (by decide) ?_
          refine x_callV 11 [vI 1] [] (dA D_X12_behindSum 109 rfl) cw_RX12_216 rfl rfl (Nat.le_of_ble_eq_true rfl) (by decide) rfl hd1 (zk k) (zk n) (sO_67 hM1) h (kU (fun M12 h => ?_))
          obtain ⟨hM12, h⟩ := h
          refine x_aload_n (dA D_X12_behindSum 110 rfl) rfl ?_
          refine x_get (v := vI (rd M12 67 14)) (dA D_X12_behindSum 111 rfl) fw_RX12_181 (sO_67 hM12) rfl ?_
          obtain ⟨h13, h⟩ := h
          refine x_if_neP (tgt := 231) (dA D_X12_behindSum 112 rfl) (by decide) h13 ⟨fun c => ?_, fun c => ?_⟩
          · have h := h.1 c
            refine x_iconst (dA D_X12_behindSum 120 rfl) ?_
            exact x_ireturn (dA D_X12_behindSum 121 rfl) rfl h
          · have h := h.2 c
            refine x_aload_n (dA D_X12_behindSum 113 rfl) rfl ?_
            refine x_iconst (dA D_X12_behindSum 114 rfl) ?_
            refine x_callV 11 [vI 5] [] (dA D_X12_behindSum 115 rfl) cw_RX12_275 rfl rfl (Nat.le_of_ble_eq_true rfl) (by decide) rfl hd1 (zk k) (zk n) (sO_67 hM12) h (kU (fun M14 h => ?_))
            obtain ⟨hM14, h⟩ := h
            refine x_aload_n (dA D_X12_behindSum 116 rfl) rfl ?_
            refine x_iload_n (dA D_X12_behindSum 117 rfl) rfl ?_
            refine x_iconst (dA D_X12_behindSum 118 rfl) ?_
            refine x_callV 11 [vI v10, vI 0] [] (dA D_X12_behindSum 119 rfl) cw_RX12_248 rfl rfl (Nat.le_of_ble_eq_true rfl) (by decide) rfl hd1 (zk k) (zk n) (sO_67 hM14) h (kU (fun M15 h => ?_))
            obtain ⟨hM15, h⟩ := h
            refine x_iconst (dA D_X12_behindSum 120 rfl) ?_
            exact x_ireturn (dA D_X12_behindSum 121 rfl) rfl h
        · have h := h.2 c
          refine x_aload_n (dA D_X12_behindSum 102 rfl) rfl ?_
          refine x_bipush (dA D_X12_behindSum 103 rfl) (by decide) (by decide) ?_
          refine x_callV 11 [vI 61] [vA 67] (dA D_X12_behindSum 104 rfl) cw_RX12_254 rfl rfl (Nat.le_of_ble_eq_true rfl) (by decide) rfl hd1 (zk k) (zk n) (sO_67 hM1) (S_X12_isSign hM1 h4 ⟨by decide, by decide⟩ h5 ⟨by decide, by decide⟩ (by omega) ?_) (kI (fun _ _ h => h))
          show X G Y_X12_behindSum d k n 202 [vA 67, vI x1, vI v10, vI x3] [vI (if ((rd M1 67 11) = 3) ∧ ((rd M1 67 12) = (61 : Int)) then 1 else 0), vA 67] M1 Q
          have hJ : X G Y_X12_behindSum d k n 210 [vA 67, vI x1, vI v10, vI x3] [vI (if ((rd M1 67 11) = 3) ∧ ((rd M1 67 12) = (61 : Int)) then 1 else 0), vA 67] M1 Q := by
            refine x_callV 11 [vI (if ((rd M1 67 11) = 3) ∧ ((rd M1 67 12) = (61 : Int)) then 1 else 0)] [] (dA D_X12_behindSum 109 rfl) cw_RX12_216 rfl rfl (Nat.le_of_ble_eq_true rfl) (by decide) rfl hd1 (zk k) (zk n) (sO_67 hM1) h (kU (fun M20 h => ?_))
            obtain ⟨hM20, h⟩ := h
            refine x_aload_n (dA D_X12_behindSum 110 rfl) rfl ?_
            refine x_get (v := vI (rd M20 67 14)) (dA D_X12_behindSum 111 rfl) fw_RX12_181 (sO_67 hM20) rfl ?_
            obtain ⟨h21, h⟩ := h
            refine x_if_neP (tgt := 231) (dA D_X12_behindSum 112 rfl) (by decide) h21 ⟨fun c => ?_, fun c => ?_⟩
            · have h := h.1 c
              refine x_iconst (dA D_X12_behindSum 120 rfl) ?_
              exact x_ireturn (dA D_X12_behindSum 121 rfl) rfl h
            · have h := h.2 c
              refine x_aload_n (dA D_X12_behindSum 113 rfl) rfl ?_
              refine x_iconst (dA D_X12_behindSum 114 rfl) ?_
              refine x_callV 11 [vI 5] [] (dA D_X12_behindSum 115 rfl) cw_RX12_275 rfl rfl (Nat.le_of_ble_eq_true rfl) (by decide) rfl hd1 (zk k) (zk n) (sO_67 hM20) h (kU (fun M22 h => ?_))
              obtain ⟨hM22, h⟩ := h
              refine x_aload_n (dA D_X12_behindSum 116 rfl) rfl ?_
              refine x_iload_n (dA D_X12_behindSum 117 rfl) rfl ?_
              refine x_iconst (dA D_X12_behindSum 118 rfl) ?_
              refine x_callV 11 [vI v10, vI 0] [] (dA D_X12_behindSum 119 rfl) cw_RX12_248 rfl rfl (Nat.le_of_ble_eq_true rfl) (by decide) rfl hd1 (zk k) (zk n) (sO_67 hM22) h (kU (fun M23 h => ?_))
              obtain ⟨hM23, h⟩ := h
              refine x_iconst (dA D_X12_behindSum 120 rfl) ?_
              exact x_ireturn (dA D_X12_behindSum 121 rfl) rfl h
          refine x_if_eqB (tgt := 209) (dA D_X12_behindSum 105 rfl) (by decide) ⟨fun c16 => ?_, fun c16 => ?_⟩
          · refine x_iconst (dA D_X12_behindSum 108 rfl) ?_
            have e0 : (if ((rd M1 67 11) = 3) ∧ ((rd M1 67 12) = (61 : Int)) then (1 : Int) else 0) = 0 := if_neg (by first | omega | grind)
            rw [e0] at hJ
            exact hJ
          · refine x_iconst (dA D_X12_behindSum 106 rfl) ?_
            refine x_goto (tgt := 210) (dA D_X12_behindSum 107 rfl) (by decide) ?_
            have e0 : (if ((rd M1 67 11) = 3) ∧ ((rd M1 67 12) = (61 : Int)) then (1 : Int) else 0) = 1 := if_pos (by first | omega | grind)
            rw [e0] at hJ
            exact hJ
      refine x_if_eqB (tgt := 186) (dA D_X12_behindSum 93 rfl) (by decide) ⟨fun c6 => ?_, fun c6 => ?_⟩
      · refine x_bipush (dA D_X12_behindSum 96 rfl) (by decide) (by decide) ?_
        rw [if_pos c6] at hJ
        exact hJ
      · refine x_bipush (dA D_X12_behindSum 94 rfl) (by decide) (by decide) ?_
        refine x_goto (tgt := 188) (dA D_X12_behindSum 95 rfl) (by decide) ?_
        rw [if_neg (by first | omega | grind)] at hJ
        exact hJ
    · have h := h.2 c
      refine x_bipush (dA D_X12_behindSum 88 rfl) (by decide) (by decide) ?_
      refine x_goto (tgt := 188) (dA D_X12_behindSum 89 rfl) (by decide) ?_
      refine x_istore_n (xs' := [vA 67, vI x1, vI 24, vI x3]) (dA D_X12_behindSum 97 rfl) (by decide) rfl ?_
      refine x_aload_n (dA D_X12_behindSum 98 rfl) rfl ?_
      refine x_iload_n (dA D_X12_behindSum 99 rfl) rfl ?_
      refine x_bipush (dA D_X12_behindSum 100 rfl) (by decide) (by decide) ?_
      refine x_icmp_neP (tgt := 205) (dA D_X12_behindSum 101 rfl) (by decide) ⟨by decide, by decide⟩ ⟨by decide, by decide⟩ ⟨fun c => ?_, fun c => ?_⟩
      · skip
        refine x_iconst (dA D_X12_behindSum 106 rfl) ?_
        refine x_goto (tgt := 210) (dA D_X12_behindSum 107 rfl) (by decide) ?_
        refine x_callV 11 [vI 1] [] (dA D_X12_behindSum 109 rfl) cw_RX12_216 rfl rfl (Nat.le_of_ble_eq_true rfl) (by decide) rfl hd1 (zk k) (zk n) (sO_67 hM1) h (kU (fun M24 h => ?_))
        obtain ⟨hM24, h⟩ := h
        refine x_aload_n (dA D_X12_behindSum 110 rfl) rfl ?_
        refine x_get (v := vI (rd M24 67 14)) (dA D_X12_behindSum 111 rfl) fw_RX12_181 (sO_67 hM24) rfl ?_
        obtain ⟨h25, h⟩ := h
        refine x_if_neP (tgt := 231) (dA D_X12_behindSum 112 rfl) (by decide) h25 ⟨fun c => ?_, fun c => ?_⟩
        · have h := h.1 c
          refine x_iconst (dA D_X12_behindSum 120 rfl) ?_
          exact x_ireturn (dA D_X12_behindSum 121 rfl) rfl h
        · have h := h.2 c
          refine x_aload_n (dA D_X12_behindSum 113 rfl) rfl ?_
          refine x_iconst (dA D_X12_behindSum 114 rfl) ?_
          refine x_callV 11 [vI 5] [] (dA D_X12_behindSum 115 rfl) cw_RX12_275 rfl rfl (Nat.le_of_ble_eq_true rfl) (by decide) rfl hd1 (zk k) (zk n) (sO_67 hM24) h (kU (fun M26 h => ?_))
          obtain ⟨hM26, h⟩ := h
          refine x_aload_n (dA D_X12_behindSum 116 rfl) rfl ?_
          refine x_iload_n (dA D_X12_behindSum 117 rfl) rfl ?_
          refine x_iconst (dA D_X12_behindSum 118 rfl) ?_
          refine x_callV 11 [vI 24, vI 0] [] (dA D_X12_behindSum 119 rfl) cw_RX12_248 rfl rfl (Nat.le_of_ble_eq_true rfl) (by decide) rfl hd1 (zk k) (zk n) (sO_67 hM26) h (kU (fun M27 h => ?_))
          obtain ⟨hM27, h⟩ := h
          refine x_iconst (dA D_X12_behindSum 120 rfl) ?_
          exact x_ireturn (dA D_X12_behindSum 121 rfl) rfl h
      · exact absurd c (by decide)
  · have h := h.2 c
    refine x_iconst (dA D_X12_behindSum 82 rfl) ?_
    exact x_ireturn (dA D_X12_behindSum 83 rfl) rfl h
set_option maxRecDepth 100000 in
theorem B_X12_behindTest_0 {G : GG} {d : Nat} {k n : Nat} {M : MM} {Q : PV → MM → Prop} (hd : 2 ≤ d) (hS : Sh M) (h : inR (rd M 67 11) ∧ inL (rd M 67 12) ∧ ∀ v3, v3 = (if ((rd M 67 11) = 1) ∧ ((rd M 67 12) = (1476 : Int)) then 1 else 0) → inR v3 ∧ ((v3 ≠ 0 → X G Y_X12_behindTest d k n 22 [vA 67, vI v3] [] M Q) ∧ (v3 = 0 → ((¬ (((rd M 67 11) = 1) ∧ ((rd M 67 12) = (498 : Int))) → C G Y_X12_inner (d - 1) 0 0 [vA 67] M (rI (fun r6 M5 => Sh M5 ∧ inR r6 ∧ ((r6 ≠ (-1) → inR (rd M5 67 11) ∧ inL (rd M5 67 12) ∧ C G Y_X12_must (d - 1) 0 0 [vA 67, vI (if ((rd M5 67 11) = 3) ∧ ((rd M5 67 12) = (41 : Int)) then 1 else 0)] M5 (rU (fun M10 => Sh M10 ∧ inR (rd M10 67 14) ∧ (((rd M10 67 14) ≠ 0 → Q (vI 2) M10) ∧ ((rd M10 67 14) = 0 → C G Y_X12_settle (d - 1) 0 0 [vA 67, vI 1] M10 (rU (fun M12 => Sh M12 ∧ ∀ M13, M13 = wr M12 67 23 ((rd M12 67 23) - 1) → Sh M13 → ∀ M14, M14 = wr M13 67 24 ((rd M13 67 24) - 1) → Sh M14 → Q (vI 2) M14))))))) ∧ (r6 = (-1) → Q (vI 4) M5))))) ∧ (((rd M 67 11) = 1) ∧ ((rd M 67 12) = (498 : Int)) → X G Y_X12_behindTest d k n 22 [vA 67, vI v3] [] M Q))))) : X G Y_X12_behindTest d k n 0 [vA 67, vU] [] M Q := by
  have hd1 : 1 ≤ d := by omega
  refine x_aload_n (dA D_X12_behindTest 0 rfl) rfl ?_
  refine x_ldc2 (a := 1476) (dA D_X12_behindTest 1 rfl) kl_RX12_284 (by decide) ?_
  obtain ⟨h1, h⟩ := h
  obtain ⟨h2, h⟩ := h
  refine x_callV 11 [vL 1476] [] (dA D_X12_behindTest 2 rfl) cw_RX12_241 rfl rfl (Nat.le_of_ble_eq_true rfl) (by decide) rfl hd1 (zk k) (zk n) (sO_67 hS) (S_X12_isWord hS h1 h2 ⟨by decide, by decide⟩ (by omega) ?_) (kI (fun _ _ h => h))
  show X G Y_X12_behindTest d k n 7 [vA 67, vU] [vI (if ((rd M 67 11) = 1) ∧ ((rd M 67 12) = (1476 : Int)) then 1 else 0)] M Q
  refine x_nmI (fun v3 ev3 => ?_)
  have h := h v3 ev3
  refine x_istore_n (xs' := [vA 67, vI v3]) (dA D_X12_behindTest 3 rfl) (by decide) rfl ?_
  refine x_iload_n (dA D_X12_behindTest 4 rfl) rfl ?_
  obtain ⟨h4, h⟩ := h
  refine x_if_neP (tgt := 22) (dA D_X12_behindTest 5 rfl) (by decide) h4 ⟨fun c => ?_, fun c => ?_⟩
  · have h := h.1 c
    exact h
  · have h := h.2 c
    refine x_aload_n (dA D_X12_behindTest 6 rfl) rfl ?_
    refine x_ldc2 (a := 498) (dA D_X12_behindTest 7 rfl) kl_RX12_286 (by decide) ?_
    refine x_callV 11 [vL 498] [] (dA D_X12_behindTest 8 rfl) cw_RX12_241 rfl rfl (Nat.le_of_ble_eq_true rfl) (by decide) rfl hd1 (zk k) (zk n) (sO_67 hS) (S_X12_isWord hS h1 h2 ⟨by decide, by decide⟩ (by omega) ?_) (kI (fun _ _ h => h))
    show X G Y_X12_behindTest d k n 19 [vA 67, vI v3] [vI (if ((rd M 67 11) = 1) ∧ ((rd M 67 12) = (498 : Int)) then 1 else 0)] M Q
    refine x_if_eqB (tgt := 76) (dA D_X12_behindTest 9 rfl) (by decide) ⟨fun c => ?_, fun c => ?_⟩
    · have h := h.1 c
      refine x_aload_n (dA D_X12_behindTest 38 rfl) rfl ?_
      refine x_callV 11 [] [] (dA D_X12_behindTest 39 rfl) cw_RX12_278 rfl rfl (Nat.le_of_ble_eq_true rfl) (by decide) rfl hd1 (zk k) (zk n) (sO_67 hS) h (kI (fun r6 M5 h => ?_))
      obtain ⟨hM5, h⟩ := h
      refine x_iconst (dA D_X12_behindTest 40 rfl) ?_
      obtain ⟨h7, h⟩ := h
      refine x_icmp_neP (tgt := 86) (dA D_X12_behindTest 41 rfl) (by decide) h7 ⟨by decide, by decide⟩ ⟨fun c => ?_, fun c => ?_⟩
      · have h := h.1 c
        refine x_aload_n (dA D_X12_behindTest 44 rfl) rfl ?_
        refine x_aload_n (dA D_X12_behindTest 45 rfl) rfl ?_
        refine x_bipush (dA D_X12_behindTest 46 rfl) (by decide) (by decide) ?_
        obtain ⟨h8, h⟩ := h
        obtain ⟨h9, h⟩ := h
        refine x_callV 11 [vI 41] [vA 67] (dA D_X12_behindTest 47 rfl) cw_RX12_254 rfl rfl (Nat.le_of_ble_eq_true rfl) (by decide) rfl hd1 (zk k) (zk n) (sO_67 hM5) (S_X12_isSign hM5 h8 ⟨by decide, by decide⟩ h9 ⟨by decide, by decide⟩ (by omega) ?_) (kI (fun _ _ h => h))
        show X G Y_X12_behindTest d k n 93 [vA 67, vI v3] [vI (if ((rd M5 67 11) = 3) ∧ ((rd M5 67 12) = (41 : Int)) then 1 else 0), vA 67] M5 Q
        refine x_callV 11 [vI (if ((rd M5 67 11) = 3) ∧ ((rd M5 67 12) = (41 : Int)) then 1 else 0)] [] (dA D_X12_behindTest 48 rfl) cw_RX12_216 rfl rfl (Nat.le_of_ble_eq_true rfl) (by decide) rfl hd1 (zk k) (zk n) (sO_67 hM5) h (kU (fun M10 h => ?_))
        obtain ⟨hM10, h⟩ := h
        refine x_aload_n (dA D_X12_behindTest 49 rfl) rfl ?_
        refine x_get (v := vI (rd M10 67 14)) (dA D_X12_behindTest 50 rfl) fw_RX12_181 (sO_67 hM10) rfl ?_
        obtain ⟨h11, h⟩ := h
        refine x_if_neP (tgt := 128) (dA D_X12_behindTest 51 rfl) (by decide) h11 ⟨fun c => ?_, fun c => ?_⟩
        · have h := h.1 c
          refine x_iconst (dA D_X12_behindTest 67 rfl) ?_
          exact x_ireturn (dA D_X12_behindTest 68 rfl) rfl h
        · have h := h.2 c
          refine x_aload_n (dA D_X12_behindTest 52 rfl) rfl ?_
          refine x_iconst (dA D_X12_behindTest 53 rfl) ?_
          refine x_callV 11 [vI 1] [] (dA D_X12_behindTest 54 rfl) cw_RX12_275 rfl rfl (Nat.le_of_ble_eq_true rfl) (by decide) rfl hd1 (zk k) (zk n) (sO_67 hM10) h (kU (fun M12 h => ?_))
          obtain ⟨hM12, h⟩ := h
          refine x_aload_n (dA D_X12_behindTest 55 rfl) rfl ?_
          refine x_dup (dA D_X12_behindTest 56 rfl) rfl ?_
          refine x_get (v := vI (rd M12 67 23)) (dA D_X12_behindTest 57 rfl) fw_RX12_223 (sO_67 hM12) rfl ?_
          refine x_iconst (dA D_X12_behindTest 58 rfl) ?_
          refine x_isub (dA D_X12_behindTest 59 rfl) ?_
          refine x_put (x := (rd M12 67 23) - 1) (dA D_X12_behindTest 60 rfl) fw_RX12_223 (fun _ _ hc => by cases hc; exact Or.inl rfl) (sO_67 hM12) rfl rfl rfl ?_
          refine x_nmM (fun M13 eM13 => ?_)
          have hM13 : Sh M13 := eM13 ▸ (sW_67_23 hM12)
          have h := h M13 eM13 hM13
          refine x_aload_n (dA D_X12_behindTest 61 rfl) rfl ?_
          refine x_dup (dA D_X12_behindTest 62 rfl) rfl ?_
          refine x_get (v := vI (rd M13 67 24)) (dA D_X12_behindTest 63 rfl) fw_RX12_245 (sO_67 hM13) rfl ?_
          refine x_iconst (dA D_X12_behindTest 64 rfl) ?_
          refine x_isub (dA D_X12_behindTest 65 rfl) ?_
          refine x_put (x := (rd M13 67 24) - 1) (dA D_X12_behindTest 66 rfl) fw_RX12_245 (fun _ _ hc => by cases hc; exact Or.inl rfl) (sO_67 hM13) rfl rfl rfl ?_
          refine x_nmM (fun M14 eM14 => ?_)
          have hM14 : Sh M14 := eM14 ▸ (sW_67_24 hM13)
          have h := h M14 eM14 hM14
          refine x_iconst (dA D_X12_behindTest 67 rfl) ?_
          exact x_ireturn (dA D_X12_behindTest 68 rfl) rfl h
      · have h := h.2 c
        refine x_iconst (dA D_X12_behindTest 42 rfl) ?_
        exact x_ireturn (dA D_X12_behindTest 43 rfl) rfl h
    · have h := h.2 c
      exact h
theorem C_X12_behindTest {G : GG} {d : Nat} {M : MM} {Q : PV → MM → Prop} (h : X G Y_X12_behindTest d 0 0 0 [vA 67, vU] [] M Q) : C G Y_X12_behindTest d 0 0 [vA 67] M Q := X.entry (by decide) (Nat.le_of_ble_eq_true rfl) rfl rfl rfl h
set_option maxRecDepth 100000 in
theorem B_X12_behindTest_22 {G : GG} {d : Nat} {k n : Nat} {x1 : Int} {M : MM} {Q : PV → MM → Prop} (hd : 2 ≤ d) (hS : Sh M) (h : inR x1 ∧ C G Y_X12_settle (d - 1) 0 0 [vA 67, vI (if x1 = 0 then 1 else 2)] M (rU (fun M6 => Sh M6 ∧ C G Y_X12_push (d - 1) 0 0 [vA 67, vI (if x1 = 0 then 29 else 28), vI (rd M6 67 17)] M6 (rU (fun M11 => Sh M11 ∧ C G Y_X12_emit (d - 1) 0 0 [vA 67, vI (if x1 = 0 then 29 else 28), vI 0] M11 (rU (fun M16 => Sh M16 ∧ C G Y_X12_goOn (d - 1) 0 0 [vA 67] M16 (rU (fun M17 => Sh M17 ∧ Q (vI 0) M17))))))))) : X G Y_X12_behindTest d k n 22 [vA 67, vI x1] [] M Q := by
  have hd1 : 1 ≤ d := by omega
  refine x_aload_n (dA D_X12_behindTest 10 rfl) rfl ?_
  refine x_iload_n (dA D_X12_behindTest 11 rfl) rfl ?_
  obtain ⟨h2, h⟩ := h
  have hJ : X G Y_X12_behindTest d k n 32 [vA 67, vI x1] [vI (if x1 = 0 then 1 else 2), vA 67] M Q := by
    refine x_callV 11 [vI (if x1 = 0 then 1 else 2)] [] (dA D_X12_behindTest 16 rfl) cw_RX12_275 rfl rfl (Nat.le_of_ble_eq_true rfl) (by decide) rfl hd1 (zk k) (zk n) (sO_67 hS) h (kU (fun M6 h => ?_))
    obtain ⟨hM6, h⟩ := h
    refine x_aload_n (dA D_X12_behindTest 17 rfl) rfl ?_
    refine x_iload_n (dA D_X12_behindTest 18 rfl) rfl ?_
    have hJ : X G Y_X12_behindTest d k n 47 [vA 67, vI x1] [vI (if x1 = 0 then 29 else 28), vA 67] M6 Q := by
      refine x_aload_n (dA D_X12_behindTest 23 rfl) rfl ?_
      refine x_get (v := vI (rd M6 67 17)) (dA D_X12_behindTest 24 rfl) fw_RX12_220 (sO_67 hM6) rfl ?_
      refine x_callV 11 [vI (if x1 = 0 then 29 else 28), vI (rd M6 67 17)] [] (dA D_X12_behindTest 25 rfl) cw_RX12_248 rfl rfl (Nat.le_of_ble_eq_true rfl) (by decide) rfl hd1 (zk k) (zk n) (sO_67 hM6) h (kU (fun M11 h => ?_))
      obtain ⟨hM11, h⟩ := h
      refine x_aload_n (dA D_X12_behindTest 26 rfl) rfl ?_
      refine x_iload_n (dA D_X12_behindTest 27 rfl) rfl ?_
      have hJ : X G Y_X12_behindTest d k n 66 [vA 67, vI x1] [vI (if x1 = 0 then 29 else 28), vA 67] M11 Q := by
        refine x_iconst (dA D_X12_behindTest 32 rfl) ?_
        refine x_callV 11 [vI (if x1 = 0 then 29 else 28), vI 0] [] (dA D_X12_behindTest 33 rfl) cw_RX12_229 rfl rfl (Nat.le_of_ble_eq_true rfl) (by decide) rfl hd1 (zk k) (zk n) (sO_67 hM11) h (kU (fun M16 h => ?_))
        obtain ⟨hM16, h⟩ := h
        refine x_aload_n (dA D_X12_behindTest 34 rfl) rfl ?_
        refine x_callV 11 [] [] (dA D_X12_behindTest 35 rfl) cw_RX12_185 rfl rfl (Nat.le_of_ble_eq_true rfl) (by decide) rfl hd1 (zk k) (zk n) (sO_67 hM16) h (kU (fun M17 h => ?_))
        obtain ⟨hM17, h⟩ := h
        refine x_iconst (dA D_X12_behindTest 36 rfl) ?_
        exact x_ireturn (dA D_X12_behindTest 37 rfl) rfl h
      refine x_if_eqP (tgt := 64) (dA D_X12_behindTest 28 rfl) (by decide) h2 ⟨fun c12 => ?_, fun c12 => ?_⟩
      · refine x_bipush (dA D_X12_behindTest 31 rfl) (by decide) (by decide) ?_
        rw [if_pos c12] at hJ
        exact hJ
      · refine x_bipush (dA D_X12_behindTest 29 rfl) (by decide) (by decide) ?_
        refine x_goto (tgt := 66) (dA D_X12_behindTest 30 rfl) (by decide) ?_
        rw [if_neg (by first | omega | grind)] at hJ
        exact hJ
    refine x_if_eqP (tgt := 45) (dA D_X12_behindTest 19 rfl) (by decide) h2 ⟨fun c7 => ?_, fun c7 => ?_⟩
    · refine x_bipush (dA D_X12_behindTest 22 rfl) (by decide) (by decide) ?_
      rw [if_pos c7] at hJ
      exact hJ
    · refine x_bipush (dA D_X12_behindTest 20 rfl) (by decide) (by decide) ?_
      refine x_goto (tgt := 47) (dA D_X12_behindTest 21 rfl) (by decide) ?_
      rw [if_neg (by first | omega | grind)] at hJ
      exact hJ
  refine x_if_eqP (tgt := 31) (dA D_X12_behindTest 12 rfl) (by decide) h2 ⟨fun c1 => ?_, fun c1 => ?_⟩
  · refine x_iconst (dA D_X12_behindTest 15 rfl) ?_
    rw [if_pos c1] at hJ
    exact hJ
  · refine x_iconst (dA D_X12_behindTest 13 rfl) ?_
    refine x_goto (tgt := 32) (dA D_X12_behindTest 14 rfl) (by decide) ?_
    rw [if_neg (by first | omega | grind)] at hJ
    exact hJ
set_option maxRecDepth 100000 in
theorem B_X12_readExpression_0 {G : GG} {d : Nat} {k n : Nat} {x1 : Int} {M : MM} {Q : PV → MM → Prop} (hd : 1 ≤ d) (hS : Sh M) (h : ∀ M1, M1 = wr M 67 23 0 → Sh M1 → ∀ M2, M2 = wr M1 67 24 0 → Sh M2 → inR x1 ∧ ∀ v8, v8 = (if x1 = 0 then 1 else 0) → X G Y_X12_readExpression d k n 20 [vA 67, vI x1, vI v8] [] M2 Q) : X G Y_X12_readExpression d k n 0 [vA 67, vI x1, vU] [] M Q := by
  have hd1 : 1 ≤ d := by omega
  refine x_aload_n (dA D_X12_readExpression 0 rfl) rfl ?_
  refine x_iconst (dA D_X12_readExpression 1 rfl) ?_
  refine x_put (x := 0) (dA D_X12_readExpression 2 rfl) fw_RX12_223 (fun _ _ hc => by cases hc; exact Or.inl rfl) (sO_67 hS) rfl rfl rfl ?_
  refine x_nmM (fun M1 eM1 => ?_)
  have hM1 : Sh M1 := eM1 ▸ (sW_67_23 hS)
  have h := h M1 eM1 hM1
  refine x_aload_n (dA D_X12_readExpression 3 rfl) rfl ?_
  refine x_iconst (dA D_X12_readExpression 4 rfl) ?_
  refine x_put (x := 0) (dA D_X12_readExpression 5 rfl) fw_RX12_245 (fun _ _ hc => by cases hc; exact Or.inl rfl) (sO_67 hM1) rfl rfl rfl ?_
  refine x_nmM (fun M2 eM2 => ?_)
  have hM2 : Sh M2 := eM2 ▸ (sW_67_24 hM1)
  have h := h M2 eM2 hM2
  refine x_iload_n (dA D_X12_readExpression 6 rfl) rfl ?_
  obtain ⟨h4, h⟩ := h
  have hJ : X G Y_X12_readExpression d k n 19 [vA 67, vI x1, vU] [vI (if x1 = 0 then 1 else 0)] M2 Q := by
    refine x_nmI (fun v8 ev8 => ?_)
    have h := h v8 ev8
    refine x_istore_n (xs' := [vA 67, vI x1, vI v8]) (dA D_X12_readExpression 11 rfl) (by decide) rfl ?_
    exact h
  refine x_if_eqP (tgt := 18) (dA D_X12_readExpression 7 rfl) (by decide) h4 ⟨fun c3 => ?_, fun c3 => ?_⟩
  · refine x_iconst (dA D_X12_readExpression 10 rfl) ?_
    have e0 : (if x1 = 0 then (1 : Int) else 0) = 1 := if_pos (by first | omega | grind)
    rw [e0] at hJ
    exact hJ
  · refine x_iconst (dA D_X12_readExpression 8 rfl) ?_
    refine x_goto (tgt := 19) (dA D_X12_readExpression 9 rfl) (by decide) ?_
    have e0 : (if x1 = 0 then (1 : Int) else 0) = 0 := if_neg (by first | omega | grind)
    rw [e0] at hJ
    exact hJ
theorem C_X12_readExpression {G : GG} {d : Nat} {x1 : Int} {M : MM} {Q : PV → MM → Prop} (h : X G Y_X12_readExpression d 0 0 0 [vA 67, vI x1, vU] [] M Q) : C G Y_X12_readExpression d 0 0 [vA 67, vI x1] M Q := X.entry (by decide) (Nat.le_of_ble_eq_true rfl) rfl rfl rfl h
set_option maxRecDepth 100000 in
theorem B_X12_readExpression_20 {G : GG} {d : Nat} {k n : Nat} {x1 x2 : Int} {M : MM} {Q : PV → MM → Prop} (hd : 2 ≤ d) (hS : Sh M) (h : inR (rd M 67 14) ∧ (((rd M 67 14) ≠ 0 → C G Y_X12_settle (d - 1) 0 0 [vA 67, vI 1] M (rU (fun M2 => Sh M2 ∧ Q vU M2))) ∧ ((rd M 67 14) = 0 → inR x2 ∧ ((x2 = 4 → C G Y_X12_settle (d - 1) 0 0 [vA 67, vI 1] M (rU (fun M4 => Sh M4 ∧ Q vU M4))) ∧ (x2 ≠ 4 → ((x2 ≠ 0 → ((x2 ≠ 1 → ((x2 ≠ 3 → C G Y_X12_behindTest (d - 1) 0 0 [vA 67] M (rI (fun r6 M5 => Sh M5 ∧ X G Y_X12_readExpression d k n 20 [vA 67, vI x1, vI r6] [] M5 Q))) ∧ (x2 = 3 → C G Y_X12_behindSum (d - 1) 0 0 [vA 67, vI x1] M (rI (fun r8 M7 => Sh M7 ∧ X G Y_X12_readExpression d k n 20 [vA 67, vI x1, vI r8] [] M7 Q))))) ∧ (x2 = 1 → C G Y_X12_readPart (d - 1) 0 0 [vA 67] M (rI (fun r10 M9 => Sh M9 ∧ X G Y_X12_readExpression d k n 20 [vA 67, vI x1, vI r10] [] M9 Q))))) ∧ (x2 = 0 → C G Y_X12_readPlain (d - 1) 0 0 [vA 67] M (rI (fun r12 M11 => Sh M11 ∧ X G Y_X12_readExpression d k n 20 [vA 67, vI x1, vI r12] [] M11 Q))))))))) : X G Y_X12_readExpression d k n 20 [vA 67, vI x1, vI x2] [] M Q := by
  have hd1 : 1 ≤ d := by omega
  refine x_aload_n (dA D_X12_readExpression 12 rfl) rfl ?_
  refine x_get (v := vI (rd M 67 14)) (dA D_X12_readExpression 13 rfl) fw_RX12_181 (sO_67 hS) rfl ?_
  obtain ⟨h1, h⟩ := h
  refine x_if_neP (tgt := 76) (dA D_X12_readExpression 14 rfl) (by decide) h1 ⟨fun c => ?_, fun c => ?_⟩
  · have h := h.1 c
    refine x_aload_n (dA D_X12_readExpression 40 rfl) rfl ?_
    refine x_iconst (dA D_X12_readExpression 41 rfl) ?_
    refine x_callV 11 [vI 1] [] (dA D_X12_readExpression 42 rfl) cw_RX12_275 rfl rfl (Nat.le_of_ble_eq_true rfl) (by decide) rfl hd1 (zk k) (zk n) (sO_67 hS) h (kU (fun M2 h => ?_))
    obtain ⟨hM2, h⟩ := h
    exact x_return (dA D_X12_readExpression 43 rfl) rfl h
  · have h := h.2 c
    refine x_iload_n (dA D_X12_readExpression 15 rfl) rfl ?_
    refine x_iconst (dA D_X12_readExpression 16 rfl) ?_
    obtain ⟨h3, h⟩ := h
    refine x_icmp_eqP (tgt := 76) (dA D_X12_readExpression 17 rfl) (by decide) h3 ⟨by decide, by decide⟩ ⟨fun c => ?_, fun c => ?_⟩
    · have h := h.1 c
      refine x_aload_n (dA D_X12_readExpression 40 rfl) rfl ?_
      refine x_iconst (dA D_X12_readExpression 41 rfl) ?_
      refine x_callV 11 [vI 1] [] (dA D_X12_readExpression 42 rfl) cw_RX12_275 rfl rfl (Nat.le_of_ble_eq_true rfl) (by decide) rfl hd1 (zk k) (zk n) (sO_67 hS) h (kU (fun M4 h => ?_))
      obtain ⟨hM4, h⟩ := h
      exact x_return (dA D_X12_readExpression 43 rfl) rfl h
    · have h := h.2 c
      refine x_iload_n (dA D_X12_readExpression 18 rfl) rfl ?_
      refine x_if_neP (tgt := 43) (dA D_X12_readExpression 19 rfl) (by decide) h3 ⟨fun c => ?_, fun c => ?_⟩
      · have h := h.1 c
        refine x_iload_n (dA D_X12_readExpression 23 rfl) rfl ?_
        refine x_iconst (dA D_X12_readExpression 24 rfl) ?_
        refine x_icmp_neP (tgt := 55) (dA D_X12_readExpression 25 rfl) (by decide) h3 ⟨by decide, by decide⟩ ⟨fun c => ?_, fun c => ?_⟩
        · have h := h.1 c
          refine x_iload_n (dA D_X12_readExpression 29 rfl) rfl ?_
          refine x_iconst (dA D_X12_readExpression 30 rfl) ?_
          refine x_icmp_neP (tgt := 68) (dA D_X12_readExpression 31 rfl) (by decide) h3 ⟨by decide, by decide⟩ ⟨fun c => ?_, fun c => ?_⟩
          · have h := h.1 c
            refine x_aload_n (dA D_X12_readExpression 36 rfl) rfl ?_
            refine x_callV 11 [] [] (dA D_X12_readExpression 37 rfl) cw_RX12_295 rfl rfl (Nat.le_of_ble_eq_true rfl) (by decide) rfl hd1 (zk k) (zk n) (sO_67 hS) h (kI (fun r6 M5 h => ?_))
            obtain ⟨hM5, h⟩ := h
            refine x_istore_n (xs' := [vA 67, vI x1, vI r6]) (dA D_X12_readExpression 38 rfl) (by decide) rfl ?_
            refine x_goto (tgt := 20) (dA D_X12_readExpression 39 rfl) (by decide) ?_
            exact h
          · have h := h.2 c
            refine x_aload_n (dA D_X12_readExpression 32 rfl) rfl ?_
            refine x_iload_n (dA D_X12_readExpression 33 rfl) rfl ?_
            refine x_callV 11 [vI x1] [] (dA D_X12_readExpression 34 rfl) cw_RX12_291 rfl rfl (Nat.le_of_ble_eq_true rfl) (by decide) rfl hd1 (zk k) (zk n) (sO_67 hS) h (kI (fun r8 M7 h => ?_))
            obtain ⟨hM7, h⟩ := h
            refine x_goto (tgt := 72) (dA D_X12_readExpression 35 rfl) (by decide) ?_
            refine x_istore_n (xs' := [vA 67, vI x1, vI r8]) (dA D_X12_readExpression 38 rfl) (by decide) rfl ?_
            refine x_goto (tgt := 20) (dA D_X12_readExpression 39 rfl) (by decide) ?_
            exact h
        · have h := h.2 c
          refine x_aload_n (dA D_X12_readExpression 26 rfl) rfl ?_
          refine x_callV 11 [] [] (dA D_X12_readExpression 27 rfl) cw_RX12_272 rfl rfl (Nat.le_of_ble_eq_true rfl) (by decide) rfl hd1 (zk k) (zk n) (sO_67 hS) h (kI (fun r10 M9 h => ?_))
          obtain ⟨hM9, h⟩ := h
          refine x_goto (tgt := 72) (dA D_X12_readExpression 28 rfl) (by decide) ?_
          refine x_istore_n (xs' := [vA 67, vI x1, vI r10]) (dA D_X12_readExpression 38 rfl) (by decide) rfl ?_
          refine x_goto (tgt := 20) (dA D_X12_readExpression 39 rfl) (by decide) ?_
          exact h
      · have h := h.2 c
        refine x_aload_n (dA D_X12_readExpression 20 rfl) rfl ?_
        refine x_callV 11 [] [] (dA D_X12_readExpression 21 rfl) cw_RX12_288 rfl rfl (Nat.le_of_ble_eq_true rfl) (by decide) rfl hd1 (zk k) (zk n) (sO_67 hS) h (kI (fun r12 M11 h => ?_))
        obtain ⟨hM11, h⟩ := h
        refine x_goto (tgt := 72) (dA D_X12_readExpression 22 rfl) (by decide) ?_
        refine x_istore_n (xs' := [vA 67, vI x1, vI r12]) (dA D_X12_readExpression 38 rfl) (by decide) rfl ?_
        refine x_goto (tgt := 20) (dA D_X12_readExpression 39 rfl) (by decide) ?_
        exact h
set_option maxRecDepth 100000 in
theorem B_X12_readClause_0 {G : GG} {d : Nat} {k n : Nat} {M : MM} {Q : PV → MM → Prop} (hd : 2 ≤ d) (hS : Sh M) (h : inR (rd M 67 11) ∧ inL (rd M 67 12) ∧ ∀ v3, v3 = (if ((rd M 67 11) = 1) ∧ ((rd M 67 12) = (20580147 : Int)) then 1 else 0) → inR v3 ∧ ((v3 ≠ 0 → inR (rd M 67 15) ∧ C G Y_X12_must (d - 1) 0 0 [vA 67, vI (if (rd M 67 15) < 12 then 1 else 0)] M (rU (fun M10 => Sh M10 ∧ inR (rd M10 67 14) ∧ (((rd M10 67 14) = 0 → ∀ v12, v12 = 8 * (rd M10 67 15) → X G Y_X12_readClause d k n 58 [vA 67, vI v3, vI v12, vI 0] [] M10 Q) ∧ ((rd M10 67 14) ≠ 0 → Q vU M10))))) ∧ (v3 = 0 → ((¬ (((rd M 67 11) = 1) ∧ ((rd M 67 12) = (17376357 : Int))) → C G Y_X12_must (d - 1) 0 0 [vA 67, vI 0] M (rU (fun M13 => Sh M13 ∧ inR (rd M13 67 14) ∧ (((rd M13 67 14) = 0 → ∀ v15, v15 = 8 * (rd M13 67 15) → X G Y_X12_readClause d k n 58 [vA 67, vI v3, vI v15, vI 0] [] M13 Q) ∧ ((rd M13 67 14) ≠ 0 → Q vU M13))))) ∧ (((rd M 67 11) = 1) ∧ ((rd M 67 12) = (17376357 : Int)) → inR (rd M 67 15) ∧ C G Y_X12_must (d - 1) 0 0 [vA 67, vI (if (rd M 67 15) < 12 then 1 else 0)] M (rU (fun M21 => Sh M21 ∧ inR (rd M21 67 14) ∧ (((rd M21 67 14) = 0 → ∀ v23, v23 = 8 * (rd M21 67 15) → X G Y_X12_readClause d k n 58 [vA 67, vI v3, vI v23, vI 0] [] M21 Q) ∧ ((rd M21 67 14) ≠ 0 → Q vU M21))))))))) : X G Y_X12_readClause d k n 0 [vA 67, vU, vU, vU] [] M Q := by
  have hd1 : 1 ≤ d := by omega
  refine x_aload_n (dA D_X12_readClause 0 rfl) rfl ?_
  refine x_ldc2 (a := 20580147) (dA D_X12_readClause 1 rfl) kl_RX12_298 (by decide) ?_
  obtain ⟨h1, h⟩ := h
  obtain ⟨h2, h⟩ := h
  refine x_callV 11 [vL 20580147] [] (dA D_X12_readClause 2 rfl) cw_RX12_241 rfl rfl (Nat.le_of_ble_eq_true rfl) (by decide) rfl hd1 (zk k) (zk n) (sO_67 hS) (S_X12_isWord hS h1 h2 ⟨by decide, by decide⟩ (by omega) ?_) (kI (fun _ _ h => h))
  show X G Y_X12_readClause d k n 7 [vA 67, vU, vU, vU] [vI (if ((rd M 67 11) = 1) ∧ ((rd M 67 12) = (20580147 : Int)) then 1 else 0)] M Q
  refine x_nmI (fun v3 ev3 => ?_)
  have h := h v3 ev3
  refine x_istore_n (xs' := [vA 67, vI v3, vU, vU]) (dA D_X12_readClause 3 rfl) (by decide) rfl ?_
  refine x_aload_n (dA D_X12_readClause 4 rfl) rfl ?_
  refine x_iload_n (dA D_X12_readClause 5 rfl) rfl ?_
  obtain ⟨h4, h⟩ := h
  refine x_if_neP (tgt := 23) (dA D_X12_readClause 6 rfl) (by decide) h4 ⟨fun c => ?_, fun c => ?_⟩
  · have h := h.1 c
    refine x_aload_n (dA D_X12_readClause 11 rfl) rfl ?_
    refine x_get (v := vI (rd M 67 15)) (dA D_X12_readClause 12 rfl) fw_RX12_302 (sO_67 hS) rfl ?_
    refine x_bipush (dA D_X12_readClause 13 rfl) (by decide) (by decide) ?_
    obtain ⟨h6, h⟩ := h
    have hJ : X G Y_X12_readClause d k n 37 [vA 67, vI v3, vU, vU] [vI (if (rd M 67 15) < 12 then 1 else 0), vA 67] M Q := by
      refine x_callV 11 [vI (if (rd M 67 15) < 12 then 1 else 0)] [] (dA D_X12_readClause 18 rfl) cw_RX12_216 rfl rfl (Nat.le_of_ble_eq_true rfl) (by decide) rfl hd1 (zk k) (zk n) (sO_67 hS) h (kU (fun M10 h => ?_))
      obtain ⟨hM10, h⟩ := h
      refine x_aload_n (dA D_X12_readClause 19 rfl) rfl ?_
      refine x_get (v := vI (rd M10 67 14)) (dA D_X12_readClause 20 rfl) fw_RX12_181 (sO_67 hM10) rfl ?_
      obtain ⟨h11, h⟩ := h
      refine x_if_eqP (tgt := 48) (dA D_X12_readClause 21 rfl) (by decide) h11 ⟨fun c => ?_, fun c => ?_⟩
      · have h := h.1 c
        refine x_bipush (dA D_X12_readClause 23 rfl) (by decide) (by decide) ?_
        refine x_aload_n (dA D_X12_readClause 24 rfl) rfl ?_
        refine x_get (v := vI (rd M10 67 15)) (dA D_X12_readClause 25 rfl) fw_RX12_302 (sO_67 hM10) rfl ?_
        refine x_imul (dA D_X12_readClause 26 rfl) ?_
        refine x_nmI (fun v12 ev12 => ?_)
        have h := h v12 ev12
        refine x_istore_n (xs' := [vA 67, vI v3, vI v12, vU]) (dA D_X12_readClause 27 rfl) (by decide) rfl ?_
        refine x_iconst (dA D_X12_readClause 28 rfl) ?_
        refine x_istore_n (xs' := [vA 67, vI v3, vI v12, vI 0]) (dA D_X12_readClause 29 rfl) (by decide) rfl ?_
        exact h
      · have h := h.2 c
        exact x_return (dA D_X12_readClause 22 rfl) rfl h
    refine x_icmp_geP (tgt := 36) (dA D_X12_readClause 14 rfl) (by decide) h6 ⟨by decide, by decide⟩ ⟨fun c5 => ?_, fun c5 => ?_⟩
    · refine x_iconst (dA D_X12_readClause 17 rfl) ?_
      have e0 : (if (rd M 67 15) < 12 then (1 : Int) else 0) = 0 := if_neg (by first | omega | grind)
      rw [e0] at hJ
      exact hJ
    · refine x_iconst (dA D_X12_readClause 15 rfl) ?_
      refine x_goto (tgt := 37) (dA D_X12_readClause 16 rfl) (by decide) ?_
      have e0 : (if (rd M 67 15) < 12 then (1 : Int) else 0) = 1 := if_pos (by first | omega | grind)
      rw [e0] at hJ
      exact hJ
  · have h := h.2 c
    refine x_aload_n (dA D_X12_readClause 7 rfl) rfl ?_
    refine x_ldc2 (a := 17376357) (dA D_X12_readClause 8 rfl) kl_RX12_300 (by decide) ?_
    refine x_callV 11 [vL 17376357] [vA 67] (dA D_X12_readClause 9 rfl) cw_RX12_241 rfl rfl (Nat.le_of_ble_eq_true rfl) (by decide) rfl hd1 (zk k) (zk n) (sO_67 hS) (S_X12_isWord hS h1 h2 ⟨by decide, by decide⟩ (by omega) ?_) (kI (fun _ _ h => h))
    show X G Y_X12_readClause d k n 20 [vA 67, vI v3, vU, vU] [vI (if ((rd M 67 11) = 1) ∧ ((rd M 67 12) = (17376357 : Int)) then 1 else 0), vA 67] M Q
    refine x_if_eqB (tgt := 36) (dA D_X12_readClause 10 rfl) (by decide) ⟨fun c => ?_, fun c => ?_⟩
    · have h := h.1 c
      refine x_iconst (dA D_X12_readClause 17 rfl) ?_
      refine x_callV 11 [vI 0] [] (dA D_X12_readClause 18 rfl) cw_RX12_216 rfl rfl (Nat.le_of_ble_eq_true rfl) (by decide) rfl hd1 (zk k) (zk n) (sO_67 hS) h (kU (fun M13 h => ?_))
      obtain ⟨hM13, h⟩ := h
      refine x_aload_n (dA D_X12_readClause 19 rfl) rfl ?_
      refine x_get (v := vI (rd M13 67 14)) (dA D_X12_readClause 20 rfl) fw_RX12_181 (sO_67 hM13) rfl ?_
      obtain ⟨h14, h⟩ := h
      refine x_if_eqP (tgt := 48) (dA D_X12_readClause 21 rfl) (by decide) h14 ⟨fun c => ?_, fun c => ?_⟩
      · have h := h.1 c
        refine x_bipush (dA D_X12_readClause 23 rfl) (by decide) (by decide) ?_
        refine x_aload_n (dA D_X12_readClause 24 rfl) rfl ?_
        refine x_get (v := vI (rd M13 67 15)) (dA D_X12_readClause 25 rfl) fw_RX12_302 (sO_67 hM13) rfl ?_
        refine x_imul (dA D_X12_readClause 26 rfl) ?_
        refine x_nmI (fun v15 ev15 => ?_)
        have h := h v15 ev15
        refine x_istore_n (xs' := [vA 67, vI v3, vI v15, vU]) (dA D_X12_readClause 27 rfl) (by decide) rfl ?_
        refine x_iconst (dA D_X12_readClause 28 rfl) ?_
        refine x_istore_n (xs' := [vA 67, vI v3, vI v15, vI 0]) (dA D_X12_readClause 29 rfl) (by decide) rfl ?_
        exact h
      · have h := h.2 c
        exact x_return (dA D_X12_readClause 22 rfl) rfl h
    · have h := h.2 c
      refine x_aload_n (dA D_X12_readClause 11 rfl) rfl ?_
      refine x_get (v := vI (rd M 67 15)) (dA D_X12_readClause 12 rfl) fw_RX12_302 (sO_67 hS) rfl ?_
      refine x_bipush (dA D_X12_readClause 13 rfl) (by decide) (by decide) ?_
      obtain ⟨h17, h⟩ := h
      have hJ : X G Y_X12_readClause d k n 37 [vA 67, vI v3, vU, vU] [vI (if (rd M 67 15) < 12 then 1 else 0), vA 67] M Q := by
        refine x_callV 11 [vI (if (rd M 67 15) < 12 then 1 else 0)] [] (dA D_X12_readClause 18 rfl) cw_RX12_216 rfl rfl (Nat.le_of_ble_eq_true rfl) (by decide) rfl hd1 (zk k) (zk n) (sO_67 hS) h (kU (fun M21 h => ?_))
        obtain ⟨hM21, h⟩ := h
        refine x_aload_n (dA D_X12_readClause 19 rfl) rfl ?_
        refine x_get (v := vI (rd M21 67 14)) (dA D_X12_readClause 20 rfl) fw_RX12_181 (sO_67 hM21) rfl ?_
        obtain ⟨h22, h⟩ := h
        refine x_if_eqP (tgt := 48) (dA D_X12_readClause 21 rfl) (by decide) h22 ⟨fun c => ?_, fun c => ?_⟩
        · have h := h.1 c
          refine x_bipush (dA D_X12_readClause 23 rfl) (by decide) (by decide) ?_
          refine x_aload_n (dA D_X12_readClause 24 rfl) rfl ?_
          refine x_get (v := vI (rd M21 67 15)) (dA D_X12_readClause 25 rfl) fw_RX12_302 (sO_67 hM21) rfl ?_
          refine x_imul (dA D_X12_readClause 26 rfl) ?_
          refine x_nmI (fun v23 ev23 => ?_)
          have h := h v23 ev23
          refine x_istore_n (xs' := [vA 67, vI v3, vI v23, vU]) (dA D_X12_readClause 27 rfl) (by decide) rfl ?_
          refine x_iconst (dA D_X12_readClause 28 rfl) ?_
          refine x_istore_n (xs' := [vA 67, vI v3, vI v23, vI 0]) (dA D_X12_readClause 29 rfl) (by decide) rfl ?_
          exact h
        · have h := h.2 c
          exact x_return (dA D_X12_readClause 22 rfl) rfl h
      refine x_icmp_geP (tgt := 36) (dA D_X12_readClause 14 rfl) (by decide) h17 ⟨by decide, by decide⟩ ⟨fun c16 => ?_, fun c16 => ?_⟩
      · refine x_iconst (dA D_X12_readClause 17 rfl) ?_
        have e0 : (if (rd M 67 15) < 12 then (1 : Int) else 0) = 0 := if_neg (by first | omega | grind)
        rw [e0] at hJ
        exact hJ
      · refine x_iconst (dA D_X12_readClause 15 rfl) ?_
        refine x_goto (tgt := 37) (dA D_X12_readClause 16 rfl) (by decide) ?_
        have e0 : (if (rd M 67 15) < 12 then (1 : Int) else 0) = 1 := if_pos (by first | omega | grind)
        rw [e0] at hJ
        exact hJ
theorem C_X12_readClause {G : GG} {d : Nat} {M : MM} {Q : PV → MM → Prop} (h : X G Y_X12_readClause d 0 0 0 [vA 67, vU, vU, vU] [] M Q) : C G Y_X12_readClause d 0 0 [vA 67] M Q := X.entry (by decide) (Nat.le_of_ble_eq_true rfl) rfl rfl rfl h
set_option maxRecDepth 100000 in
theorem B_X12_readClause_58 {G : GG} {d : Nat} {k n : Nat} {x1 x2 x3 : Int} {M : MM} {Q : PV → MM → Prop} (hd : 2 ≤ d) (hS : Sh M) (h : inR x3 ∧ ((8 ≤ x3 → inR x1 ∧ 0 ≤ x2 ∧ x2 < 96 ∧ ∀ M9, M9 = wr M 73 x2 (if x1 = 0 then 1 else 0) → Sh M9 → ∀ M10, M10 = wr M9 67 15 ((rd M9 67 15) + 1) → Sh M10 → 0 ≤ (x2 + 3) ∧ (x2 + 3) < 96 ∧ ∀ M13, M13 = wr M10 73 (x2 + 3) (rd M10 67 17) → Sh M13 → C G Y_X12_readExpression (d - 1) 0 0 [vA 67, vI 0] M13 (rU (fun M14 => Sh M14 ∧ 0 ≤ (x2 + 4) ∧ (x2 + 4) < 96 ∧ ∀ M17, M17 = wr M14 73 (x2 + 4) (rd M14 67 17) → Sh M17 → 0 ≤ (x2 + 5) ∧ (x2 + 5) < 96 ∧ ∀ M20, M20 = wr M17 73 (x2 + 5) (rd M17 67 17) → Sh M20 → inR (rd M20 67 14) ∧ (((rd M20 67 14) ≠ 0 → 0 ≤ (x2 + 6) ∧ (x2 + 6) < 96 ∧ ∀ M24, M24 = wr M20 73 (x2 + 6) (rd M20 67 17) → Sh M24 → Q vU M24) ∧ ((rd M20 67 14) = 0 → inR (rd M20 67 11) ∧ inL (rd M20 67 12) ∧ ((¬ (((rd M20 67 11) = 1) ∧ ((rd M20 67 12) = (294 : Int))) → 0 ≤ (x2 + 6) ∧ (x2 + 6) < 96 ∧ ∀ M29, M29 = wr M20 73 (x2 + 6) (rd M20 67 17) → Sh M29 → Q vU M29) ∧ (((rd M20 67 11) = 1) ∧ ((rd M20 67 12) = (294 : Int)) → C G Y_X12_goOn (d - 1) 0 0 [vA 67] M20 (rU (fun M30 => Sh M30 ∧ C G Y_X12_readExpression (d - 1) 0 0 [vA 67, vI 1] M30 (rU (fun M31 => Sh M31 ∧ 0 ≤ (x2 + 6) ∧ (x2 + 6) < 96 ∧ ∀ M34, M34 = wr M31 73 (x2 + 6) (rd M31 67 17) → Sh M34 → Q vU M34))))))))))) ∧ (x3 < 8 → 0 ≤ (x2 + x3) ∧ (x2 + x3) < 96 ∧ ∀ M37, M37 = wr M 73 (x2 + x3) 0 → Sh M37 → X G Y_X12_readClause d k n 58 [vA 67, vI x1, vI x2, vI (x3 + 1)] [] M37 Q))) : X G Y_X12_readClause d k n 58 [vA 67, vI x1, vI x2, vI x3] [] M Q := by
  have hd1 : 1 ≤ d := by omega
  refine x_iload_n (dA D_X12_readClause 30 rfl) rfl ?_
  refine x_bipush (dA D_X12_readClause 31 rfl) (by decide) (by decide) ?_
  obtain ⟨h1, h⟩ := h
  refine x_icmp_geP (tgt := 79) (dA D_X12_readClause 32 rfl) (by decide) h1 ⟨by decide, by decide⟩ ⟨fun c => ?_, fun c => ?_⟩
  · have h := h.1 c
    refine x_aload_n (dA D_X12_readClause 42 rfl) rfl ?_
    refine x_get (v := vA 73) (dA D_X12_readClause 43 rfl) fw_RX12_30 (sO_67 hS) (congrArg (rfV G) (sR_67_16 hS)) ?_
    refine x_iload_n (dA D_X12_readClause 44 rfl) rfl ?_
    refine x_iload_n (dA D_X12_readClause 45 rfl) rfl ?_
    obtain ⟨h3, h⟩ := h
    have hJ : X G Y_X12_readClause d k n 93 [vA 67, vI x1, vI x2, vI x3] [vI (if x1 = 0 then 1 else 0), vI x2, vA 73] M Q := by
      obtain ⟨h7, h⟩ := h
      obtain ⟨h8, h⟩ := h
      refine x_iast (dA D_X12_readClause 50 rfl) (sA_73 hS h7 h8) ?_
      refine x_nmM (fun M9 eM9 => ?_)
      have hM9 : Sh M9 := eM9 ▸ (sW_73 hS)
      have h := h M9 eM9 hM9
      refine x_aload_n (dA D_X12_readClause 51 rfl) rfl ?_
      refine x_dup (dA D_X12_readClause 52 rfl) rfl ?_
      refine x_get (v := vI (rd M9 67 15)) (dA D_X12_readClause 53 rfl) fw_RX12_302 (sO_67 hM9) rfl ?_
      refine x_iconst (dA D_X12_readClause 54 rfl) ?_
      refine x_iadd (dA D_X12_readClause 55 rfl) ?_
      refine x_put (x := (rd M9 67 15) + 1) (dA D_X12_readClause 56 rfl) fw_RX12_302 (fun _ _ hc => by cases hc; exact Or.inl rfl) (sO_67 hM9) rfl rfl rfl ?_
      refine x_nmM (fun M10 eM10 => ?_)
      have hM10 : Sh M10 := eM10 ▸ (sW_67_15 hM9)
      have h := h M10 eM10 hM10
      refine x_aload_n (dA D_X12_readClause 57 rfl) rfl ?_
      refine x_get (v := vA 73) (dA D_X12_readClause 58 rfl) fw_RX12_30 (sO_67 hM10) (congrArg (rfV G) (sR_67_16 hM10)) ?_
      refine x_iload_n (dA D_X12_readClause 59 rfl) rfl ?_
      refine x_iconst (dA D_X12_readClause 60 rfl) ?_
      refine x_iadd (dA D_X12_readClause 61 rfl) ?_
      refine x_aload_n (dA D_X12_readClause 62 rfl) rfl ?_
      refine x_get (v := vI (rd M10 67 17)) (dA D_X12_readClause 63 rfl) fw_RX12_220 (sO_67 hM10) rfl ?_
      obtain ⟨h11, h⟩ := h
      obtain ⟨h12, h⟩ := h
      refine x_iast (dA D_X12_readClause 64 rfl) (sA_73 hM10 h11 h12) ?_
      refine x_nmM (fun M13 eM13 => ?_)
      have hM13 : Sh M13 := eM13 ▸ (sW_73 hM10)
      have h := h M13 eM13 hM13
      refine x_aload_n (dA D_X12_readClause 65 rfl) rfl ?_
      refine x_iconst (dA D_X12_readClause 66 rfl) ?_
      refine x_callV 11 [vI 0] [] (dA D_X12_readClause 67 rfl) cw_RX12_305 rfl rfl (Nat.le_of_ble_eq_true rfl) (by decide) rfl hd1 (zk k) (zk n) (sO_67 hM13) h (kU (fun M14 h => ?_))
      obtain ⟨hM14, h⟩ := h
      refine x_aload_n (dA D_X12_readClause 68 rfl) rfl ?_
      refine x_get (v := vA 73) (dA D_X12_readClause 69 rfl) fw_RX12_30 (sO_67 hM14) (congrArg (rfV G) (sR_67_16 hM14)) ?_
      refine x_iload_n (dA D_X12_readClause 70 rfl) rfl ?_
      refine x_iconst (dA D_X12_readClause 71 rfl) ?_
      refine x_iadd (dA D_X12_readClause 72 rfl) ?_
      refine x_aload_n (dA D_X12_readClause 73 rfl) rfl ?_
      refine x_get (v := vI (rd M14 67 17)) (dA D_X12_readClause 74 rfl) fw_RX12_220 (sO_67 hM14) rfl ?_
      obtain ⟨h15, h⟩ := h
      obtain ⟨h16, h⟩ := h
      refine x_iast (dA D_X12_readClause 75 rfl) (sA_73 hM14 h15 h16) ?_
      refine x_nmM (fun M17 eM17 => ?_)
      have hM17 : Sh M17 := eM17 ▸ (sW_73 hM14)
      have h := h M17 eM17 hM17
      refine x_aload_n (dA D_X12_readClause 76 rfl) rfl ?_
      refine x_get (v := vA 73) (dA D_X12_readClause 77 rfl) fw_RX12_30 (sO_67 hM17) (congrArg (rfV G) (sR_67_16 hM17)) ?_
      refine x_iload_n (dA D_X12_readClause 78 rfl) rfl ?_
      refine x_iconst (dA D_X12_readClause 79 rfl) ?_
      refine x_iadd (dA D_X12_readClause 80 rfl) ?_
      refine x_aload_n (dA D_X12_readClause 81 rfl) rfl ?_
      refine x_get (v := vI (rd M17 67 17)) (dA D_X12_readClause 82 rfl) fw_RX12_220 (sO_67 hM17) rfl ?_
      obtain ⟨h18, h⟩ := h
      obtain ⟨h19, h⟩ := h
      refine x_iast (dA D_X12_readClause 83 rfl) (sA_73 hM17 h18 h19) ?_
      refine x_nmM (fun M20 eM20 => ?_)
      have hM20 : Sh M20 := eM20 ▸ (sW_73 hM17)
      have h := h M20 eM20 hM20
      refine x_aload_n (dA D_X12_readClause 84 rfl) rfl ?_
      refine x_get (v := vI (rd M20 67 14)) (dA D_X12_readClause 85 rfl) fw_RX12_181 (sO_67 hM20) rfl ?_
      obtain ⟨h21, h⟩ := h
      refine x_if_neP (tgt := 171) (dA D_X12_readClause 86 rfl) (by decide) h21 ⟨fun c => ?_, fun c => ?_⟩
      · have h := h.1 c
        refine x_aload_n (dA D_X12_readClause 96 rfl) rfl ?_
        refine x_get (v := vA 73) (dA D_X12_readClause 97 rfl) fw_RX12_30 (sO_67 hM20) (congrArg (rfV G) (sR_67_16 hM20)) ?_
        refine x_iload_n (dA D_X12_readClause 98 rfl) rfl ?_
        refine x_bipush (dA D_X12_readClause 99 rfl) (by decide) (by decide) ?_
        refine x_iadd (dA D_X12_readClause 100 rfl) ?_
        refine x_aload_n (dA D_X12_readClause 101 rfl) rfl ?_
        refine x_get (v := vI (rd M20 67 17)) (dA D_X12_readClause 102 rfl) fw_RX12_220 (sO_67 hM20) rfl ?_
        obtain ⟨h22, h⟩ := h
        obtain ⟨h23, h⟩ := h
        refine x_iast (dA D_X12_readClause 103 rfl) (sA_73 hM20 h22 h23) ?_
        refine x_nmM (fun M24 eM24 => ?_)
        have hM24 : Sh M24 := eM24 ▸ (sW_73 hM20)
        have h := h M24 eM24 hM24
        exact x_return (dA D_X12_readClause 104 rfl) rfl h
      · have h := h.2 c
        refine x_aload_n (dA D_X12_readClause 87 rfl) rfl ?_
        refine x_ldc2 (a := 294) (dA D_X12_readClause 88 rfl) kl_RX12_308 (by decide) ?_
        obtain ⟨h25, h⟩ := h
        obtain ⟨h26, h⟩ := h
        refine x_callV 11 [vL 294] [] (dA D_X12_readClause 89 rfl) cw_RX12_241 rfl rfl (Nat.le_of_ble_eq_true rfl) (by decide) rfl hd1 (zk k) (zk n) (sO_67 hM20) (S_X12_isWord hM20 h25 h26 ⟨by decide, by decide⟩ (by omega) ?_) (kI (fun _ _ h => h))
        show X G Y_X12_readClause d k n 159 [vA 67, vI x1, vI x2, vI x3] [vI (if ((rd M20 67 11) = 1) ∧ ((rd M20 67 12) = (294 : Int)) then 1 else 0)] M20 Q
        refine x_if_eqB (tgt := 171) (dA D_X12_readClause 90 rfl) (by decide) ⟨fun c => ?_, fun c => ?_⟩
        · have h := h.1 c
          refine x_aload_n (dA D_X12_readClause 96 rfl) rfl ?_
          refine x_get (v := vA 73) (dA D_X12_readClause 97 rfl) fw_RX12_30 (sO_67 hM20) (congrArg (rfV G) (sR_67_16 hM20)) ?_
          refine x_iload_n (dA D_X12_readClause 98 rfl) rfl ?_
          refine x_bipush (dA D_X12_readClause 99 rfl) (by decide) (by decide) ?_
          refine x_iadd (dA D_X12_readClause 100 rfl) ?_
          refine x_aload_n (dA D_X12_readClause 101 rfl) rfl ?_
          refine x_get (v := vI (rd M20 67 17)) (dA D_X12_readClause 102 rfl) fw_RX12_220 (sO_67 hM20) rfl ?_
          obtain ⟨h27, h⟩ := h
          obtain ⟨h28, h⟩ := h
          refine x_iast (dA D_X12_readClause 103 rfl) (sA_73 hM20 h27 h28) ?_
          refine x_nmM (fun M29 eM29 => ?_)
          have hM29 : Sh M29 := eM29 ▸ (sW_73 hM20)
          have h := h M29 eM29 hM29
          exact x_return (dA D_X12_readClause 104 rfl) rfl h
        · have h := h.2 c
          refine x_aload_n (dA D_X12_readClause 91 rfl) rfl ?_
          refine x_callV 11 [] [] (dA D_X12_readClause 92 rfl) cw_RX12_185 rfl rfl (Nat.le_of_ble_eq_true rfl) (by decide) rfl hd1 (zk k) (zk n) (sO_67 hM20) h (kU (fun M30 h => ?_))
          obtain ⟨hM30, h⟩ := h
          refine x_aload_n (dA D_X12_readClause 93 rfl) rfl ?_
          refine x_iconst (dA D_X12_readClause 94 rfl) ?_
          refine x_callV 11 [vI 1] [] (dA D_X12_readClause 95 rfl) cw_RX12_305 rfl rfl (Nat.le_of_ble_eq_true rfl) (by decide) rfl hd1 (zk k) (zk n) (sO_67 hM30) h (kU (fun M31 h => ?_))
          obtain ⟨hM31, h⟩ := h
          refine x_aload_n (dA D_X12_readClause 96 rfl) rfl ?_
          refine x_get (v := vA 73) (dA D_X12_readClause 97 rfl) fw_RX12_30 (sO_67 hM31) (congrArg (rfV G) (sR_67_16 hM31)) ?_
          refine x_iload_n (dA D_X12_readClause 98 rfl) rfl ?_
          refine x_bipush (dA D_X12_readClause 99 rfl) (by decide) (by decide) ?_
          refine x_iadd (dA D_X12_readClause 100 rfl) ?_
          refine x_aload_n (dA D_X12_readClause 101 rfl) rfl ?_
          refine x_get (v := vI (rd M31 67 17)) (dA D_X12_readClause 102 rfl) fw_RX12_220 (sO_67 hM31) rfl ?_
          obtain ⟨h32, h⟩ := h
          obtain ⟨h33, h⟩ := h
          refine x_iast (dA D_X12_readClause 103 rfl) (sA_73 hM31 h32 h33) ?_
          refine x_nmM (fun M34 eM34 => ?_)
          have hM34 : Sh M34 := eM34 ▸ (sW_73 hM31)
          have h := h M34 eM34 hM34
          exact x_return (dA D_X12_readClause 104 rfl) rfl h
    refine x_if_eqP (tgt := 92) (dA D_X12_readClause 46 rfl) (by decide) h3 ⟨fun c2 => ?_, fun c2 => ?_⟩
    · refine x_iconst (dA D_X12_readClause 49 rfl) ?_
      have e0 : (if x1 = 0 then (1 : Int) else 0) = 1 := if_pos (by first | omega | grind)
      rw [e0] at hJ
      exact hJ
    · refine x_iconst (dA D_X12_readClause 47 rfl) ?_
      refine x_goto (tgt := 93) (dA D_X12_readClause 48 rfl) (by decide) ?_
      have e0 : (if x1 = 0 then (1 : Int) else 0) = 0 := if_neg (by first | omega | grind)
      rw [e0] at hJ
      exact hJ
  · have h := h.2 c
    refine x_aload_n (dA D_X12_readClause 33 rfl) rfl ?_
    refine x_get (v := vA 73) (dA D_X12_readClause 34 rfl) fw_RX12_30 (sO_67 hS) (congrArg (rfV G) (sR_67_16 hS)) ?_
    refine x_iload_n (dA D_X12_readClause 35 rfl) rfl ?_
    refine x_iload_n (dA D_X12_readClause 36 rfl) rfl ?_
    refine x_iadd (dA D_X12_readClause 37 rfl) ?_
    refine x_iconst (dA D_X12_readClause 38 rfl) ?_
    obtain ⟨h35, h⟩ := h
    obtain ⟨h36, h⟩ := h
    refine x_iast (dA D_X12_readClause 39 rfl) (sA_73 hS h35 h36) ?_
    refine x_nmM (fun M37 eM37 => ?_)
    have hM37 : Sh M37 := eM37 ▸ (sW_73 hS)
    have h := h M37 eM37 hM37
    refine x_iinc (xs' := [vA 67, vI x1, vI x2, vI (x3 + 1)]) (dA D_X12_readClause 40 rfl) rfl (by decide) rfl ?_
    refine x_goto (tgt := 58) (dA D_X12_readClause 41 rfl) (by decide) ?_
    exact h
