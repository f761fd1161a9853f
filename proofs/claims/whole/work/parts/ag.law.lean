/-! ===== the law's own walk ===== -/
theorem iAnd63 (x : Int) : 0 ≤ iAnd x 63 ∧ iAnd x 63 < 64 := by
  have h : ∀ a : Int32, 0 ≤ (a &&& 63).toInt ∧ (a &&& 63).toInt < 64 := by
    intro a
    have e : (a &&& 63).toInt = (a.toBitVec &&& 63#32).toInt := rfl
    have l : (a.toBitVec &&& 63#32).toNat ≤ 63 := by
      rw [BitVec.toNat_and]
      exact Nat.and_le_right
    rw [e, BitVec.toInt_eq_toNat_cond]
    rw [if_pos (by omega)]
    omega
  exact h (Int32.ofInt x)
section LAW
variable {G : GG} {d k n : Nat} {M : MM} {Q : PV → MM → Prop} {q : Int}
theorem x_icmp_same {y : YY} {pc : Nat} {xs st : List PV} {a : Int} {off : Int} {tgt : Nat} (hd : decode y.2.1 pc = .ok (.if_icmp .eq off, 3)) (ht : (pc : Int) + off = (tgt : Int)) (kk : X G y d k n tgt xs st M Q) : X G y d k n pc xs (vI a :: vI a :: st) M Q := X.same (fun hF _ _ _ w => lv_icmp_eq hF.1 hF.2.1 hd ht (fun _ => w) (fun q => absurd rfl q)) kk
theorem PR.c {kz nz : Nat} {zc zm : YY} {as : List PV} (h : PR G d kz nz zc zm as q M) : C G zc d kz nz (vA 0 :: as) M (rI (fun v M1 => CM G zm d (vA 67 :: as) M1 (rI (fun v' M2 => v' = v ∧ INV (q + 1) M2)))) := h
theorem INV.sh (h : INV q M) : Sh M := by
  obtain ⟨r, sm, s, tx, L, ri, si, hC, hM⟩ := h
  exact hC.1.1
abbrev lxs (i : Int) : List PV := [vA (-2), vA 0, vA 67, vI i]
theorem law_c0 {i : Int} (hd : 61 ≤ d) (hL : gL G ≤ 4608) (hX : ∀ j : Nat, inR (gX G j)) (hi : 0 ≤ i ∧ i + 9 ≤ gL G) (hq : 0 ≤ q ∧ q ≤ 1000) (hI : INV q M) (kk : ∀ M', INV (q + 1) M' → X G Y_L_law d k n 1192 (lxs i) [] M' Q) : X G Y_L_law d (12 + k) (1204 + n) 184 (lxs i) [] M Q := by
  have hd1 : 1 ≤ d := by omega
  refine x_aload_n (dA D_L_law_0 22 rfl) rfl ?_
  refine x_aload_n (dA D_L_law_0 23 rfl) rfl ?_
  refine x_iload_n (dA D_L_law_0 24 rfl) rfl ?_
  refine x_iconst (dA D_L_law_0 25 rfl) ?_
  refine x_iadd (dA D_L_law_0 26 rfl) ?_
  refine x_scr (dA D_L_law_0 27 rfl) (by omega) (by omega) (by omega) ?_
  refine x_aload_n (dA D_L_law_0 28 rfl) rfl ?_
  refine x_iload_n (dA D_L_law_0 29 rfl) rfl ?_
  refine x_iconst (dA D_L_law_0 30 rfl) ?_
  refine x_iadd (dA D_L_law_0 31 rfl) ?_
  refine x_scr (dA D_L_law_0 32 rfl) (by omega) (by omega) (by omega) ?_
  refine x_aload_n (dA D_L_law_0 33 rfl) rfl ?_
  refine x_iload_n (dA D_L_law_0 34 rfl) rfl ?_
  refine x_iconst (dA D_L_law_0 35 rfl) ?_
  refine x_iadd (dA D_L_law_0 36 rfl) ?_
  refine x_scr (dA D_L_law_0 37 rfl) (by omega) (by omega) (by omega) ?_
  refine x_callV 10 [vI (gX G (i + 1).toNat), vI (gX G (i + 2).toNat), vI (gX G (i + 3).toNat)] [] (dA D_L_law_0 38 rfl) cw_RL_13 rfl rfl (Nat.le_of_ble_eq_true rfl) (by decide) rfl hd1 (k := k) (n := n) (by omega) (by omega) (sO_0 hI.sh) (PR.c (P_scene (hX _) (hX _) (hX _) hq hI (by omega : 60 ≤ d - 1))) (kI (fun v M1 h => ?_))
  refine x_aload_n (dA D_L_law_0 39 rfl) rfl ?_
  refine x_aload_n (dA D_L_law_1 0 rfl) rfl ?_
  refine x_iload_n (dA D_L_law_1 1 rfl) rfl ?_
  refine x_iconst (dA D_L_law_1 2 rfl) ?_
  refine x_iadd (dA D_L_law_1 3 rfl) ?_
  refine x_scr (dA D_L_law_1 4 rfl) (by omega) (by omega) (by omega) ?_
  refine x_aload_n (dA D_L_law_1 5 rfl) rfl ?_
  refine x_iload_n (dA D_L_law_1 6 rfl) rfl ?_
  refine x_iconst (dA D_L_law_1 7 rfl) ?_
  refine x_iadd (dA D_L_law_1 8 rfl) ?_
  refine x_scr (dA D_L_law_1 9 rfl) (by omega) (by omega) (by omega) ?_
  refine x_aload_n (dA D_L_law_1 10 rfl) rfl ?_
  refine x_iload_n (dA D_L_law_1 11 rfl) rfl ?_
  refine x_iconst (dA D_L_law_1 12 rfl) ?_
  refine x_iadd (dA D_L_law_1 13 rfl) ?_
  refine x_scr (dA D_L_law_1 14 rfl) (by omega) (by omega) (by omega) ?_
  refine x_callV 11 [vI (gX G (i + 1).toNat), vI (gX G (i + 2).toNat), vI (gX G (i + 3).toNat)] [vI v] (dA D_L_law_1 15 rfl) cw_RL_17 rfl rfl (Nat.le_of_ble_eq_true rfl) (by decide) rfl hd1 (k := k) (n := n) (by omega) (by omega) h.1 h.2 (kI (fun v' M2 g => ?_))
  obtain ⟨rfl, g⟩ := g
  exact x_icmp_same (dA D_L_law_1 16 rfl) (by decide) (kk M2 g)
theorem law_c1 {i : Int} (hd : 61 ≤ d) (hL : gL G ≤ 4608) (hX : ∀ j : Nat, inR (gX G j)) (hi : 0 ≤ i ∧ i + 9 ≤ gL G) (hq : 0 ≤ q ∧ q ≤ 1000) (hI : INV q M) (kk : ∀ M', INV (q + 1) M' → X G Y_L_law d k n 1192 (lxs i) [] M' Q) : X G Y_L_law d (12 + k) (1204 + n) 227 (lxs i) [] M Q := by
  have hd1 : 1 ≤ d := by omega
  refine x_aload_n (dA D_L_law_1 19 rfl) rfl ?_
  refine x_aload_n (dA D_L_law_1 20 rfl) rfl ?_
  refine x_iload_n (dA D_L_law_1 21 rfl) rfl ?_
  refine x_iconst (dA D_L_law_1 22 rfl) ?_
  refine x_iadd (dA D_L_law_1 23 rfl) ?_
  refine x_scr (dA D_L_law_1 24 rfl) (by omega) (by omega) (by omega) ?_
  refine x_aload_n (dA D_L_law_1 25 rfl) rfl ?_
  refine x_iload_n (dA D_L_law_1 26 rfl) rfl ?_
  refine x_iconst (dA D_L_law_1 27 rfl) ?_
  refine x_iadd (dA D_L_law_1 28 rfl) ?_
  refine x_scr (dA D_L_law_1 29 rfl) (by omega) (by omega) (by omega) ?_
  refine x_aload_n (dA D_L_law_1 30 rfl) rfl ?_
  refine x_iload_n (dA D_L_law_1 31 rfl) rfl ?_
  refine x_iconst (dA D_L_law_1 32 rfl) ?_
  refine x_iadd (dA D_L_law_1 33 rfl) ?_
  refine x_scr (dA D_L_law_1 34 rfl) (by omega) (by omega) (by omega) ?_
  refine x_callV 10 [vI (gX G (i + 1).toNat), vI (gX G (i + 2).toNat), vI (gX G (i + 3).toNat)] [] (dA D_L_law_1 35 rfl) cw_RL_18 rfl rfl (Nat.le_of_ble_eq_true rfl) (by decide) rfl hd1 (k := k) (n := n) (by omega) (by omega) (sO_0 hI.sh) (PR.c (P_put (hX _) (hX _) (hX _) hq hI (by omega : 60 ≤ d - 1))) (kI (fun v M1 h => ?_))
  refine x_aload_n (dA D_L_law_1 36 rfl) rfl ?_
  refine x_aload_n (dA D_L_law_1 37 rfl) rfl ?_
  refine x_iload_n (dA D_L_law_1 38 rfl) rfl ?_
  refine x_iconst (dA D_L_law_1 39 rfl) ?_
  refine x_iadd (dA D_L_law_2 0 rfl) ?_
  refine x_scr (dA D_L_law_2 1 rfl) (by omega) (by omega) (by omega) ?_
  refine x_aload_n (dA D_L_law_2 2 rfl) rfl ?_
  refine x_iload_n (dA D_L_law_2 3 rfl) rfl ?_
  refine x_iconst (dA D_L_law_2 4 rfl) ?_
  refine x_iadd (dA D_L_law_2 5 rfl) ?_
  refine x_scr (dA D_L_law_2 6 rfl) (by omega) (by omega) (by omega) ?_
  refine x_aload_n (dA D_L_law_2 7 rfl) rfl ?_
  refine x_iload_n (dA D_L_law_2 8 rfl) rfl ?_
  refine x_iconst (dA D_L_law_2 9 rfl) ?_
  refine x_iadd (dA D_L_law_2 10 rfl) ?_
  refine x_scr (dA D_L_law_2 11 rfl) (by omega) (by omega) (by omega) ?_
  refine x_callV 11 [vI (gX G (i + 1).toNat), vI (gX G (i + 2).toNat), vI (gX G (i + 3).toNat)] [vI v] (dA D_L_law_2 12 rfl) cw_RL_21 rfl rfl (Nat.le_of_ble_eq_true rfl) (by decide) rfl hd1 (k := k) (n := n) (by omega) (by omega) h.1 h.2 (kI (fun v' M2 g => ?_))
  obtain ⟨rfl, g⟩ := g
  exact x_icmp_same (dA D_L_law_2 13 rfl) (by decide) (kk M2 g)
theorem law_c2 {i : Int} (hd : 61 ≤ d) (hL : gL G ≤ 4608) (hX : ∀ j : Nat, inR (gX G j)) (hi : 0 ≤ i ∧ i + 9 ≤ gL G) (hq : 0 ≤ q ∧ q ≤ 1000) (hI : INV q M) (kk : ∀ M', INV (q + 1) M' → X G Y_L_law d k n 1192 (lxs i) [] M' Q) : X G Y_L_law d (12 + k) (1204 + n) 270 (lxs i) [] M Q := by
  have hd1 : 1 ≤ d := by omega
  refine x_aload_n (dA D_L_law_2 16 rfl) rfl ?_
  refine x_aload_n (dA D_L_law_2 17 rfl) rfl ?_
  refine x_iload_n (dA D_L_law_2 18 rfl) rfl ?_
  refine x_iconst (dA D_L_law_2 19 rfl) ?_
  refine x_iadd (dA D_L_law_2 20 rfl) ?_
  refine x_scr (dA D_L_law_2 21 rfl) (by omega) (by omega) (by omega) ?_
  refine x_aload_n (dA D_L_law_2 22 rfl) rfl ?_
  refine x_iload_n (dA D_L_law_2 23 rfl) rfl ?_
  refine x_iconst (dA D_L_law_2 24 rfl) ?_
  refine x_iadd (dA D_L_law_2 25 rfl) ?_
  refine x_scr (dA D_L_law_2 26 rfl) (by omega) (by omega) (by omega) ?_
  refine x_aload_n (dA D_L_law_2 27 rfl) rfl ?_
  refine x_iload_n (dA D_L_law_2 28 rfl) rfl ?_
  refine x_iconst (dA D_L_law_2 29 rfl) ?_
  refine x_iadd (dA D_L_law_2 30 rfl) ?_
  refine x_scr (dA D_L_law_2 31 rfl) (by omega) (by omega) (by omega) ?_
  refine x_callV 10 [vI (gX G (i + 1).toNat), vI (gX G (i + 2).toNat), vI (gX G (i + 3).toNat)] [] (dA D_L_law_2 32 rfl) cw_RL_22 rfl rfl (Nat.le_of_ble_eq_true rfl) (by decide) rfl hd1 (k := k) (n := n) (by omega) (by omega) (sO_0 hI.sh) (PR.c (P_sort (hX _) (hX _) (hX _) hq hI (by omega : 60 ≤ d - 1))) (kI (fun v M1 h => ?_))
  refine x_aload_n (dA D_L_law_2 33 rfl) rfl ?_
  refine x_aload_n (dA D_L_law_2 34 rfl) rfl ?_
  refine x_iload_n (dA D_L_law_2 35 rfl) rfl ?_
  refine x_iconst (dA D_L_law_2 36 rfl) ?_
  refine x_iadd (dA D_L_law_2 37 rfl) ?_
  refine x_scr (dA D_L_law_2 38 rfl) (by omega) (by omega) (by omega) ?_
  refine x_aload_n (dA D_L_law_2 39 rfl) rfl ?_
  refine x_iload_n (dA D_L_law_3 0 rfl) rfl ?_
  refine x_iconst (dA D_L_law_3 1 rfl) ?_
  refine x_iadd (dA D_L_law_3 2 rfl) ?_
  refine x_scr (dA D_L_law_3 3 rfl) (by omega) (by omega) (by omega) ?_
  refine x_aload_n (dA D_L_law_3 4 rfl) rfl ?_
  refine x_iload_n (dA D_L_law_3 5 rfl) rfl ?_
  refine x_iconst (dA D_L_law_3 6 rfl) ?_
  refine x_iadd (dA D_L_law_3 7 rfl) ?_
  refine x_scr (dA D_L_law_3 8 rfl) (by omega) (by omega) (by omega) ?_
  refine x_callV 11 [vI (gX G (i + 1).toNat), vI (gX G (i + 2).toNat), vI (gX G (i + 3).toNat)] [vI v] (dA D_L_law_3 9 rfl) cw_RL_25 rfl rfl (Nat.le_of_ble_eq_true rfl) (by decide) rfl hd1 (k := k) (n := n) (by omega) (by omega) h.1 h.2 (kI (fun v' M2 g => ?_))
  obtain ⟨rfl, g⟩ := g
  exact x_icmp_same (dA D_L_law_3 10 rfl) (by decide) (kk M2 g)
theorem law_c3 {i : Int} (hd : 61 ≤ d) (hL : gL G ≤ 4608) (hX : ∀ j : Nat, inR (gX G j)) (hi : 0 ≤ i ∧ i + 9 ≤ gL G) (hq : 0 ≤ q ∧ q ≤ 1000) (hI : INV q M) (kk : ∀ M', INV (q + 1) M' → X G Y_L_law d k n 1192 (lxs i) [] M' Q) : X G Y_L_law d (12 + k) (1204 + n) 313 (lxs i) [] M Q := by
  have hd1 : 1 ≤ d := by omega
  refine x_aload_n (dA D_L_law_3 13 rfl) rfl ?_
  refine x_aload_n (dA D_L_law_3 14 rfl) rfl ?_
  refine x_iload_n (dA D_L_law_3 15 rfl) rfl ?_
  refine x_iconst (dA D_L_law_3 16 rfl) ?_
  refine x_iadd (dA D_L_law_3 17 rfl) ?_
  refine x_scr (dA D_L_law_3 18 rfl) (by omega) (by omega) (by omega) ?_
  refine x_aload_n (dA D_L_law_3 19 rfl) rfl ?_
  refine x_iload_n (dA D_L_law_3 20 rfl) rfl ?_
  refine x_iconst (dA D_L_law_3 21 rfl) ?_
  refine x_iadd (dA D_L_law_3 22 rfl) ?_
  refine x_scr (dA D_L_law_3 23 rfl) (by omega) (by omega) (by omega) ?_
  refine x_callV 10 [vI (gX G (i + 1).toNat), vI (gX G (i + 2).toNat)] [] (dA D_L_law_3 24 rfl) cw_RL_26 rfl rfl (Nat.le_of_ble_eq_true rfl) (by decide) rfl hd1 (k := k) (n := n) (by omega) (by omega) (sO_0 hI.sh) (PR.c (P_terms (hX _) (hX _) hq hI (by omega : 60 ≤ d - 1))) (kI (fun v M1 h => ?_))
  refine x_aload_n (dA D_L_law_3 25 rfl) rfl ?_
  refine x_aload_n (dA D_L_law_3 26 rfl) rfl ?_
  refine x_iload_n (dA D_L_law_3 27 rfl) rfl ?_
  refine x_iconst (dA D_L_law_3 28 rfl) ?_
  refine x_iadd (dA D_L_law_3 29 rfl) ?_
  refine x_scr (dA D_L_law_3 30 rfl) (by omega) (by omega) (by omega) ?_
  refine x_aload_n (dA D_L_law_3 31 rfl) rfl ?_
  refine x_iload_n (dA D_L_law_3 32 rfl) rfl ?_
  refine x_iconst (dA D_L_law_3 33 rfl) ?_
  refine x_iadd (dA D_L_law_3 34 rfl) ?_
  refine x_scr (dA D_L_law_3 35 rfl) (by omega) (by omega) (by omega) ?_
  refine x_callV 11 [vI (gX G (i + 1).toNat), vI (gX G (i + 2).toNat)] [vI v] (dA D_L_law_3 36 rfl) cw_RL_30 rfl rfl (Nat.le_of_ble_eq_true rfl) (by decide) rfl hd1 (k := k) (n := n) (by omega) (by omega) h.1 h.2 (kI (fun v' M2 g => ?_))
  obtain ⟨rfl, g⟩ := g
  exact x_icmp_same (dA D_L_law_3 37 rfl) (by decide) (kk M2 g)
theorem law_c4 {i : Int} (hd : 61 ≤ d) (hL : gL G ≤ 4608) (hX : ∀ j : Nat, inR (gX G j)) (hi : 0 ≤ i ∧ i + 9 ≤ gL G) (hq : 0 ≤ q ∧ q ≤ 1000) (hI : INV q M) (kk : ∀ M', INV (q + 1) M' → X G Y_L_law d k n 1192 (lxs i) [] M' Q) : X G Y_L_law d (12 + k) (1204 + n) 346 (lxs i) [] M Q := by
  have hd1 : 1 ≤ d := by omega
  refine x_aload_n (dA D_L_law_4 0 rfl) rfl ?_
  refine x_aload_n (dA D_L_law_4 1 rfl) rfl ?_
  refine x_iload_n (dA D_L_law_4 2 rfl) rfl ?_
  refine x_iconst (dA D_L_law_4 3 rfl) ?_
  refine x_iadd (dA D_L_law_4 4 rfl) ?_
  refine x_scr (dA D_L_law_4 5 rfl) (by omega) (by omega) (by omega) ?_
  refine x_aload_n (dA D_L_law_4 6 rfl) rfl ?_
  refine x_iload_n (dA D_L_law_4 7 rfl) rfl ?_
  refine x_iconst (dA D_L_law_4 8 rfl) ?_
  refine x_iadd (dA D_L_law_4 9 rfl) ?_
  refine x_scr (dA D_L_law_4 10 rfl) (by omega) (by omega) (by omega) ?_
  refine x_aload_n (dA D_L_law_4 11 rfl) rfl ?_
  refine x_iload_n (dA D_L_law_4 12 rfl) rfl ?_
  refine x_iconst (dA D_L_law_4 13 rfl) ?_
  refine x_iadd (dA D_L_law_4 14 rfl) ?_
  refine x_scr (dA D_L_law_4 15 rfl) (by omega) (by omega) (by omega) ?_
  refine x_aload_n (dA D_L_law_4 16 rfl) rfl ?_
  refine x_iload_n (dA D_L_law_4 17 rfl) rfl ?_
  refine x_iconst (dA D_L_law_4 18 rfl) ?_
  refine x_iadd (dA D_L_law_4 19 rfl) ?_
  refine x_scr (dA D_L_law_4 20 rfl) (by omega) (by omega) (by omega) ?_
  refine x_aload_n (dA D_L_law_4 21 rfl) rfl ?_
  refine x_iload_n (dA D_L_law_4 22 rfl) rfl ?_
  refine x_iconst (dA D_L_law_4 23 rfl) ?_
  refine x_iadd (dA D_L_law_4 24 rfl) ?_
  refine x_scr (dA D_L_law_4 25 rfl) (by omega) (by omega) (by omega) ?_
  refine x_callV 10 [vI (gX G (i + 1).toNat), vI (gX G (i + 2).toNat), vI (gX G (i + 3).toNat), vI (gX G (i + 4).toNat), vI (gX G (i + 5).toNat)] [] (dA D_L_law_4 26 rfl) cw_RL_31 rfl rfl (Nat.le_of_ble_eq_true rfl) (by decide) rfl hd1 (k := k) (n := n) (by omega) (by omega) (sO_0 hI.sh) (PR.c (P_feed hI (by omega : 60 ≤ d - 1))) (kI (fun v M1 h => ?_))
  refine x_aload_n (dA D_L_law_4 27 rfl) rfl ?_
  refine x_aload_n (dA D_L_law_4 28 rfl) rfl ?_
  refine x_iload_n (dA D_L_law_4 29 rfl) rfl ?_
  refine x_iconst (dA D_L_law_4 30 rfl) ?_
  refine x_iadd (dA D_L_law_4 31 rfl) ?_
  refine x_scr (dA D_L_law_4 32 rfl) (by omega) (by omega) (by omega) ?_
  refine x_aload_n (dA D_L_law_4 33 rfl) rfl ?_
  refine x_iload_n (dA D_L_law_4 34 rfl) rfl ?_
  refine x_iconst (dA D_L_law_4 35 rfl) ?_
  refine x_iadd (dA D_L_law_4 36 rfl) ?_
  refine x_scr (dA D_L_law_4 37 rfl) (by omega) (by omega) (by omega) ?_
  refine x_aload_n (dA D_L_law_4 38 rfl) rfl ?_
  refine x_iload_n (dA D_L_law_4 39 rfl) rfl ?_
  refine x_iconst (dA D_L_law_5 0 rfl) ?_
  refine x_iadd (dA D_L_law_5 1 rfl) ?_
  refine x_scr (dA D_L_law_5 2 rfl) (by omega) (by omega) (by omega) ?_
  refine x_aload_n (dA D_L_law_5 3 rfl) rfl ?_
  refine x_iload_n (dA D_L_law_5 4 rfl) rfl ?_
  refine x_iconst (dA D_L_law_5 5 rfl) ?_
  refine x_iadd (dA D_L_law_5 6 rfl) ?_
  refine x_scr (dA D_L_law_5 7 rfl) (by omega) (by omega) (by omega) ?_
  refine x_aload_n (dA D_L_law_5 8 rfl) rfl ?_
  refine x_iload_n (dA D_L_law_5 9 rfl) rfl ?_
  refine x_iconst (dA D_L_law_5 10 rfl) ?_
  refine x_iadd (dA D_L_law_5 11 rfl) ?_
  refine x_scr (dA D_L_law_5 12 rfl) (by omega) (by omega) (by omega) ?_
  refine x_callV 11 [vI (gX G (i + 1).toNat), vI (gX G (i + 2).toNat), vI (gX G (i + 3).toNat), vI (gX G (i + 4).toNat), vI (gX G (i + 5).toNat)] [vI v] (dA D_L_law_5 13 rfl) cw_RL_35 rfl rfl (Nat.le_of_ble_eq_true rfl) (by decide) rfl hd1 (k := k) (n := n) (by omega) (by omega) h.1 h.2 (kI (fun v' M2 g => ?_))
  obtain ⟨rfl, g⟩ := g
  exact x_icmp_same (dA D_L_law_5 14 rfl) (by decide) (kk M2 g)
theorem law_c5 {i : Int} (hd : 61 ≤ d) (hL : gL G ≤ 4608) (hX : ∀ j : Nat, inR (gX G j)) (hi : 0 ≤ i ∧ i + 9 ≤ gL G) (hq : 0 ≤ q ∧ q ≤ 1000) (hI : INV q M) (kk : ∀ M', INV (q + 1) M' → X G Y_L_law d k n 1192 (lxs i) [] M' Q) : X G Y_L_law d (12 + k) (1204 + n) 409 (lxs i) [] M Q := by
  have hd1 : 1 ≤ d := by omega
  refine x_aload_n (dA D_L_law_5 17 rfl) rfl ?_
  refine x_aload_n (dA D_L_law_5 18 rfl) rfl ?_
  refine x_iload_n (dA D_L_law_5 19 rfl) rfl ?_
  refine x_iconst (dA D_L_law_5 20 rfl) ?_
  refine x_iadd (dA D_L_law_5 21 rfl) ?_
  refine x_scr (dA D_L_law_5 22 rfl) (by omega) (by omega) (by omega) ?_
  refine x_callV 10 [vI (gX G (i + 1).toNat)] [] (dA D_L_law_5 23 rfl) cw_RL_36 rfl rfl (Nat.le_of_ble_eq_true rfl) (by decide) rfl hd1 (k := k) (n := n) (by omega) (by omega) (sO_0 hI.sh) (PR.c (P_end (hX _) hI (by omega : 60 ≤ d - 1))) (kI (fun v M1 h => ?_))
  refine x_aload_n (dA D_L_law_5 24 rfl) rfl ?_
  refine x_aload_n (dA D_L_law_5 25 rfl) rfl ?_
  refine x_iload_n (dA D_L_law_5 26 rfl) rfl ?_
  refine x_iconst (dA D_L_law_5 27 rfl) ?_
  refine x_iadd (dA D_L_law_5 28 rfl) ?_
  refine x_scr (dA D_L_law_5 29 rfl) (by omega) (by omega) (by omega) ?_
  refine x_callV 11 [vI (gX G (i + 1).toNat)] [vI v] (dA D_L_law_5 30 rfl) cw_RL_40 rfl rfl (Nat.le_of_ble_eq_true rfl) (by decide) rfl hd1 (k := k) (n := n) (by omega) (by omega) h.1 h.2 (kI (fun v' M2 g => ?_))
  obtain ⟨rfl, g⟩ := g
  exact x_icmp_same (dA D_L_law_5 31 rfl) (by decide) (kk M2 g)
theorem law_c6 {i : Int} (hd : 61 ≤ d) (hL : gL G ≤ 4608) (hX : ∀ j : Nat, inR (gX G j)) (hi : 0 ≤ i ∧ i + 9 ≤ gL G) (hq : 0 ≤ q ∧ q ≤ 1000) (hI : INV q M) (kk : ∀ M', INV (q + 1) M' → X G Y_L_law d k n 1192 (lxs i) [] M' Q) : X G Y_L_law d (12 + k) (1204 + n) 432 (lxs i) [] M Q := by
  have hd1 : 1 ≤ d := by omega
  refine x_aload_n (dA D_L_law_5 34 rfl) rfl ?_
  refine x_callV 10 [] [] (dA D_L_law_5 35 rfl) cw_RL_41 rfl rfl (Nat.le_of_ble_eq_true rfl) (by decide) rfl hd1 (k := k) (n := n) (by omega) (by omega) (sO_0 hI.sh) (PR.c (P_row hq hI (by omega : 60 ≤ d - 1))) (kI (fun v M1 h => ?_))
  refine x_aload_n (dA D_L_law_5 36 rfl) rfl ?_
  refine x_callV 11 [] [vI v] (dA D_L_law_5 37 rfl) cw_RL_45 rfl rfl (Nat.le_of_ble_eq_true rfl) (by decide) rfl hd1 (k := k) (n := n) (by omega) (by omega) h.1 h.2 (kI (fun v' M2 g => ?_))
  obtain ⟨rfl, g⟩ := g
  exact x_icmp_same (dA D_L_law_5 38 rfl) (by decide) (kk M2 g)
theorem law_c7 {i : Int} (hd : 61 ≤ d) (hL : gL G ≤ 4608) (hX : ∀ j : Nat, inR (gX G j)) (hi : 0 ≤ i ∧ i + 9 ≤ gL G) (hq : 0 ≤ q ∧ q ≤ 1000) (hI : INV q M) (kk : ∀ M', INV (q + 1) M' → X G Y_L_law d k n 1192 (lxs i) [] M' Q) : X G Y_L_law d (12 + k) (1204 + n) 445 (lxs i) [] M Q := by
  have hd1 : 1 ≤ d := by omega
  refine x_aload_n (dA D_L_law_6 1 rfl) rfl ?_
  refine x_callV 10 [] [] (dA D_L_law_6 2 rfl) cw_RL_46 rfl rfl (Nat.le_of_ble_eq_true rfl) (by decide) rfl hd1 (k := k) (n := n) (by omega) (by omega) (sO_0 hI.sh) (PR.c (P_cut hI (by omega : 60 ≤ d - 1))) (kI (fun v M1 h => ?_))
  refine x_aload_n (dA D_L_law_6 3 rfl) rfl ?_
  refine x_callV 11 [] [vI v] (dA D_L_law_6 4 rfl) cw_RL_49 rfl rfl (Nat.le_of_ble_eq_true rfl) (by decide) rfl hd1 (k := k) (n := n) (by omega) (by omega) h.1 h.2 (kI (fun v' M2 g => ?_))
  obtain ⟨rfl, g⟩ := g
  exact x_icmp_same (dA D_L_law_6 5 rfl) (by decide) (kk M2 g)
theorem law_c8 {i : Int} (hd : 61 ≤ d) (hL : gL G ≤ 4608) (hX : ∀ j : Nat, inR (gX G j)) (hi : 0 ≤ i ∧ i + 9 ≤ gL G) (hq : 0 ≤ q ∧ q ≤ 1000) (hI : INV q M) (kk : ∀ M', INV (q + 1) M' → X G Y_L_law d k n 1192 (lxs i) [] M' Q) : X G Y_L_law d (12 + k) (1204 + n) 458 (lxs i) [] M Q := by
  have hd1 : 1 ≤ d := by omega
  refine x_aload_n (dA D_L_law_6 8 rfl) rfl ?_
  refine x_callV 10 [] [] (dA D_L_law_6 9 rfl) cw_RL_50 rfl rfl (Nat.le_of_ble_eq_true rfl) (by decide) rfl hd1 (k := k) (n := n) (by omega) (by omega) (sO_0 hI.sh) (PR.c (P_law hq hI (by omega : 60 ≤ d - 1))) (kI (fun v M1 h => ?_))
  refine x_aload_n (dA D_L_law_6 10 rfl) rfl ?_
  refine x_callV 11 [] [vI v] (dA D_L_law_6 11 rfl) cw_RL_53 rfl rfl (Nat.le_of_ble_eq_true rfl) (by decide) rfl hd1 (k := k) (n := n) (by omega) (by omega) h.1 h.2 (kI (fun v' M2 g => ?_))
  obtain ⟨rfl, g⟩ := g
  exact x_icmp_same (dA D_L_law_6 12 rfl) (by decide) (kk M2 g)
theorem law_c9 {i : Int} (hd : 61 ≤ d) (hL : gL G ≤ 4608) (hX : ∀ j : Nat, inR (gX G j)) (hi : 0 ≤ i ∧ i + 9 ≤ gL G) (hq : 0 ≤ q ∧ q ≤ 1000) (hI : INV q M) (kk : ∀ M', INV (q + 1) M' → X G Y_L_law d k n 1192 (lxs i) [] M' Q) : X G Y_L_law d (12 + k) (1204 + n) 471 (lxs i) [] M Q := by
  have hd1 : 1 ≤ d := by omega
  refine x_aload_n (dA D_L_law_6 15 rfl) rfl ?_
  refine x_callV 10 [] [] (dA D_L_law_6 16 rfl) cw_RL_54 rfl rfl (Nat.le_of_ble_eq_true rfl) (by decide) rfl hd1 (k := k) (n := n) (by omega) (by omega) (sO_0 hI.sh) (PR.c (P_fault hI (by omega : 60 ≤ d - 1))) (kI (fun v M1 h => ?_))
  refine x_aload_n (dA D_L_law_6 17 rfl) rfl ?_
  refine x_callV 11 [] [vI v] (dA D_L_law_6 18 rfl) cw_RL_57 rfl rfl (Nat.le_of_ble_eq_true rfl) (by decide) rfl hd1 (k := k) (n := n) (by omega) (by omega) h.1 h.2 (kI (fun v' M2 g => ?_))
  obtain ⟨rfl, g⟩ := g
  exact x_icmp_same (dA D_L_law_6 19 rfl) (by decide) (kk M2 g)
theorem law_c10 {i : Int} (hd : 61 ≤ d) (hL : gL G ≤ 4608) (hX : ∀ j : Nat, inR (gX G j)) (hi : 0 ≤ i ∧ i + 9 ≤ gL G) (hq : 0 ≤ q ∧ q ≤ 1000) (hI : INV q M) (kk : ∀ M', INV (q + 1) M' → X G Y_L_law d k n 1192 (lxs i) [] M' Q) : X G Y_L_law d (12 + k) (1204 + n) 484 (lxs i) [] M Q := by
  have hd1 : 1 ≤ d := by omega
  refine x_aload_n (dA D_L_law_6 22 rfl) rfl ?_
  refine x_aload_n (dA D_L_law_6 23 rfl) rfl ?_
  refine x_iload_n (dA D_L_law_6 24 rfl) rfl ?_
  refine x_iconst (dA D_L_law_6 25 rfl) ?_
  refine x_iadd (dA D_L_law_6 26 rfl) ?_
  refine x_scr (dA D_L_law_6 27 rfl) (by omega) (by omega) (by omega) ?_
  refine x_callV 10 [vI (gX G (i + 1).toNat)] [] (dA D_L_law_6 28 rfl) cw_RL_58 rfl rfl (Nat.le_of_ble_eq_true rfl) (by decide) rfl hd1 (k := k) (n := n) (by omega) (by omega) (sO_0 hI.sh) (PR.c (P_force (hX _) hq hI (by omega : 60 ≤ d - 1))) (kI (fun v M1 h => ?_))
  refine x_aload_n (dA D_L_law_6 29 rfl) rfl ?_
  refine x_aload_n (dA D_L_law_6 30 rfl) rfl ?_
  refine x_iload_n (dA D_L_law_6 31 rfl) rfl ?_
  refine x_iconst (dA D_L_law_6 32 rfl) ?_
  refine x_iadd (dA D_L_law_6 33 rfl) ?_
  refine x_scr (dA D_L_law_6 34 rfl) (by omega) (by omega) (by omega) ?_
  refine x_callV 11 [vI (gX G (i + 1).toNat)] [vI v] (dA D_L_law_6 35 rfl) cw_RL_61 rfl rfl (Nat.le_of_ble_eq_true rfl) (by decide) rfl hd1 (k := k) (n := n) (by omega) (by omega) h.1 h.2 (kI (fun v' M2 g => ?_))
  obtain ⟨rfl, g⟩ := g
  exact x_icmp_same (dA D_L_law_6 36 rfl) (by decide) (kk M2 g)
theorem law_c11 {i : Int} (hd : 61 ≤ d) (hL : gL G ≤ 4608) (hX : ∀ j : Nat, inR (gX G j)) (hi : 0 ≤ i ∧ i + 9 ≤ gL G) (hq : 0 ≤ q ∧ q ≤ 1000) (hI : INV q M) (kk : ∀ M', INV (q + 1) M' → X G Y_L_law d k n 1192 (lxs i) [] M' Q) : X G Y_L_law d (12 + k) (1204 + n) 507 (lxs i) [] M Q := by
  have hd1 : 1 ≤ d := by omega
  refine x_aload_n (dA D_L_law_6 39 rfl) rfl ?_
  refine x_aload_n (dA D_L_law_7 0 rfl) rfl ?_
  refine x_iload_n (dA D_L_law_7 1 rfl) rfl ?_
  refine x_iconst (dA D_L_law_7 2 rfl) ?_
  refine x_iadd (dA D_L_law_7 3 rfl) ?_
  refine x_scr (dA D_L_law_7 4 rfl) (by omega) (by omega) (by omega) ?_
  refine x_aload_n (dA D_L_law_7 5 rfl) rfl ?_
  refine x_iload_n (dA D_L_law_7 6 rfl) rfl ?_
  refine x_iconst (dA D_L_law_7 7 rfl) ?_
  refine x_iadd (dA D_L_law_7 8 rfl) ?_
  refine x_scr (dA D_L_law_7 9 rfl) (by omega) (by omega) (by omega) ?_
  refine x_aload_n (dA D_L_law_7 10 rfl) rfl ?_
  refine x_iload_n (dA D_L_law_7 11 rfl) rfl ?_
  refine x_iconst (dA D_L_law_7 12 rfl) ?_
  refine x_iadd (dA D_L_law_7 13 rfl) ?_
  refine x_scr (dA D_L_law_7 14 rfl) (by omega) (by omega) (by omega) ?_
  refine x_aload_n (dA D_L_law_7 15 rfl) rfl ?_
  refine x_iload_n (dA D_L_law_7 16 rfl) rfl ?_
  refine x_iconst (dA D_L_law_7 17 rfl) ?_
  refine x_iadd (dA D_L_law_7 18 rfl) ?_
  refine x_scr (dA D_L_law_7 19 rfl) (by omega) (by omega) (by omega) ?_
  refine x_aload_n (dA D_L_law_7 20 rfl) rfl ?_
  refine x_iload_n (dA D_L_law_7 21 rfl) rfl ?_
  refine x_iconst (dA D_L_law_7 22 rfl) ?_
  refine x_iadd (dA D_L_law_7 23 rfl) ?_
  refine x_scr (dA D_L_law_7 24 rfl) (by omega) (by omega) (by omega) ?_
  refine x_aload_n (dA D_L_law_7 25 rfl) rfl ?_
  refine x_iload_n (dA D_L_law_7 26 rfl) rfl ?_
  refine x_bipush (dA D_L_law_7 27 rfl) (by decide) (by decide) ?_
  refine x_iadd (dA D_L_law_7 28 rfl) ?_
  refine x_scr (dA D_L_law_7 29 rfl) (by omega) (by omega) (by omega) ?_
  refine x_aload_n (dA D_L_law_7 30 rfl) rfl ?_
  refine x_iload_n (dA D_L_law_7 31 rfl) rfl ?_
  refine x_bipush (dA D_L_law_7 32 rfl) (by decide) (by decide) ?_
  refine x_iadd (dA D_L_law_7 33 rfl) ?_
  refine x_scr (dA D_L_law_7 34 rfl) (by omega) (by omega) (by omega) ?_
  refine x_aload_n (dA D_L_law_7 35 rfl) rfl ?_
  refine x_iload_n (dA D_L_law_7 36 rfl) rfl ?_
  refine x_bipush (dA D_L_law_7 37 rfl) (by decide) (by decide) ?_
  refine x_iadd (dA D_L_law_7 38 rfl) ?_
  refine x_scr (dA D_L_law_7 39 rfl) (by omega) (by omega) (by omega) ?_
  refine x_callV 10 [vI (gX G (i + 1).toNat), vI (gX G (i + 2).toNat), vI (gX G (i + 3).toNat), vI (gX G (i + 4).toNat), vI (gX G (i + 5).toNat), vI (gX G (i + 6).toNat), vI (gX G (i + 7).toNat), vI (gX G (i + 8).toNat)] [] (dA D_L_law_8 0 rfl) cw_RL_62 rfl rfl (Nat.le_of_ble_eq_true rfl) (by decide) rfl hd1 (k := k) (n := n) (by omega) (by omega) (sO_0 hI.sh) (PR.c (P_asks (hX _) (hX _) (hX _) (hX _) (hX _) (hX _) (hX _) (hX _) hI (by omega : 60 ≤ d - 1))) (kI (fun v M1 h => ?_))
  refine x_aload_n (dA D_L_law_8 1 rfl) rfl ?_
  refine x_aload_n (dA D_L_law_8 2 rfl) rfl ?_
  refine x_iload_n (dA D_L_law_8 3 rfl) rfl ?_
  refine x_iconst (dA D_L_law_8 4 rfl) ?_
  refine x_iadd (dA D_L_law_8 5 rfl) ?_
  refine x_scr (dA D_L_law_8 6 rfl) (by omega) (by omega) (by omega) ?_
  refine x_aload_n (dA D_L_law_8 7 rfl) rfl ?_
  refine x_iload_n (dA D_L_law_8 8 rfl) rfl ?_
  refine x_iconst (dA D_L_law_8 9 rfl) ?_
  refine x_iadd (dA D_L_law_8 10 rfl) ?_
  refine x_scr (dA D_L_law_8 11 rfl) (by omega) (by omega) (by omega) ?_
  refine x_aload_n (dA D_L_law_8 12 rfl) rfl ?_
  refine x_iload_n (dA D_L_law_8 13 rfl) rfl ?_
  refine x_iconst (dA D_L_law_8 14 rfl) ?_
  refine x_iadd (dA D_L_law_8 15 rfl) ?_
  refine x_scr (dA D_L_law_8 16 rfl) (by omega) (by omega) (by omega) ?_
  refine x_aload_n (dA D_L_law_8 17 rfl) rfl ?_
  refine x_iload_n (dA D_L_law_8 18 rfl) rfl ?_
  refine x_iconst (dA D_L_law_8 19 rfl) ?_
  refine x_iadd (dA D_L_law_8 20 rfl) ?_
  refine x_scr (dA D_L_law_8 21 rfl) (by omega) (by omega) (by omega) ?_
  refine x_aload_n (dA D_L_law_8 22 rfl) rfl ?_
  refine x_iload_n (dA D_L_law_8 23 rfl) rfl ?_
  refine x_iconst (dA D_L_law_8 24 rfl) ?_
  refine x_iadd (dA D_L_law_8 25 rfl) ?_
  refine x_scr (dA D_L_law_8 26 rfl) (by omega) (by omega) (by omega) ?_
  refine x_aload_n (dA D_L_law_8 27 rfl) rfl ?_
  refine x_iload_n (dA D_L_law_8 28 rfl) rfl ?_
  refine x_bipush (dA D_L_law_8 29 rfl) (by decide) (by decide) ?_
  refine x_iadd (dA D_L_law_8 30 rfl) ?_
  refine x_scr (dA D_L_law_8 31 rfl) (by omega) (by omega) (by omega) ?_
  refine x_aload_n (dA D_L_law_8 32 rfl) rfl ?_
  refine x_iload_n (dA D_L_law_8 33 rfl) rfl ?_
  refine x_bipush (dA D_L_law_8 34 rfl) (by decide) (by decide) ?_
  refine x_iadd (dA D_L_law_8 35 rfl) ?_
  refine x_scr (dA D_L_law_8 36 rfl) (by omega) (by omega) (by omega) ?_
  refine x_aload_n (dA D_L_law_8 37 rfl) rfl ?_
  refine x_iload_n (dA D_L_law_8 38 rfl) rfl ?_
  refine x_bipush (dA D_L_law_8 39 rfl) (by decide) (by decide) ?_
  refine x_iadd (dA D_L_law_9 0 rfl) ?_
  refine x_scr (dA D_L_law_9 1 rfl) (by omega) (by omega) (by omega) ?_
  refine x_callV 11 [vI (gX G (i + 1).toNat), vI (gX G (i + 2).toNat), vI (gX G (i + 3).toNat), vI (gX G (i + 4).toNat), vI (gX G (i + 5).toNat), vI (gX G (i + 6).toNat), vI (gX G (i + 7).toNat), vI (gX G (i + 8).toNat)] [vI v] (dA D_L_law_9 2 rfl) cw_RL_66 rfl rfl (Nat.le_of_ble_eq_true rfl) (by decide) rfl hd1 (k := k) (n := n) (by omega) (by omega) h.1 h.2 (kI (fun v' M2 g => ?_))
  obtain ⟨rfl, g⟩ := g
  exact x_icmp_same (dA D_L_law_9 3 rfl) (by decide) (kk M2 g)
theorem law_c12 {i : Int} (hd : 61 ≤ d) (hL : gL G ≤ 4608) (hX : ∀ j : Nat, inR (gX G j)) (hi : 0 ≤ i ∧ i + 9 ≤ gL G) (hq : 0 ≤ q ∧ q ≤ 1000) (hI : INV q M) (kk : ∀ M', INV (q + 1) M' → X G Y_L_law d k n 1192 (lxs i) [] M' Q) : X G Y_L_law d (12 + k) (1204 + n) 606 (lxs i) [] M Q := by
  have hd1 : 1 ≤ d := by omega
  refine x_aload_n (dA D_L_law_9 6 rfl) rfl ?_
  refine x_aload_n (dA D_L_law_9 7 rfl) rfl ?_
  refine x_iload_n (dA D_L_law_9 8 rfl) rfl ?_
  refine x_iconst (dA D_L_law_9 9 rfl) ?_
  refine x_iadd (dA D_L_law_9 10 rfl) ?_
  refine x_scr (dA D_L_law_9 11 rfl) (by omega) (by omega) (by omega) ?_
  refine x_callV 10 [vI (gX G (i + 1).toNat)] [] (dA D_L_law_9 12 rfl) cw_RL_67 rfl rfl (Nat.le_of_ble_eq_true rfl) (by decide) rfl hd1 (k := k) (n := n) (by omega) (by omega) (sO_0 hI.sh) (PR.c (P_can (hX _) hI (by omega : 60 ≤ d - 1))) (kI (fun v M1 h => ?_))
  refine x_aload_n (dA D_L_law_9 13 rfl) rfl ?_
  refine x_aload_n (dA D_L_law_9 14 rfl) rfl ?_
  refine x_iload_n (dA D_L_law_9 15 rfl) rfl ?_
  refine x_iconst (dA D_L_law_9 16 rfl) ?_
  refine x_iadd (dA D_L_law_9 17 rfl) ?_
  refine x_scr (dA D_L_law_9 18 rfl) (by omega) (by omega) (by omega) ?_
  refine x_callV 11 [vI (gX G (i + 1).toNat)] [vI v] (dA D_L_law_9 19 rfl) cw_RL_70 rfl rfl (Nat.le_of_ble_eq_true rfl) (by decide) rfl hd1 (k := k) (n := n) (by omega) (by omega) h.1 h.2 (kI (fun v' M2 g => ?_))
  obtain ⟨rfl, g⟩ := g
  exact x_icmp_same (dA D_L_law_9 20 rfl) (by decide) (kk M2 g)
theorem law_c13 {i : Int} (hd : 61 ≤ d) (hL : gL G ≤ 4608) (hX : ∀ j : Nat, inR (gX G j)) (hi : 0 ≤ i ∧ i + 9 ≤ gL G) (hq : 0 ≤ q ∧ q ≤ 1000) (hI : INV q M) (kk : ∀ M', INV (q + 1) M' → X G Y_L_law d k n 1192 (lxs i) [] M' Q) : X G Y_L_law d (12 + k) (1204 + n) 629 (lxs i) [] M Q := by
  have hd1 : 1 ≤ d := by omega
  refine x_aload_n (dA D_L_law_9 23 rfl) rfl ?_
  refine x_aload_n (dA D_L_law_9 24 rfl) rfl ?_
  refine x_iload_n (dA D_L_law_9 25 rfl) rfl ?_
  refine x_iconst (dA D_L_law_9 26 rfl) ?_
  refine x_iadd (dA D_L_law_9 27 rfl) ?_
  refine x_scr (dA D_L_law_9 28 rfl) (by omega) (by omega) (by omega) ?_
  refine x_callV 10 [vI (gX G (i + 1).toNat)] [] (dA D_L_law_9 29 rfl) cw_RL_71 rfl rfl (Nat.le_of_ble_eq_true rfl) (by decide) rfl hd1 (k := k) (n := n) (by omega) (by omega) (sO_0 hI.sh) (PR.c (P_book (hX _) hI (by omega : 60 ≤ d - 1))) (kI (fun v M1 h => ?_))
  refine x_aload_n (dA D_L_law_9 30 rfl) rfl ?_
  refine x_aload_n (dA D_L_law_9 31 rfl) rfl ?_
  refine x_iload_n (dA D_L_law_9 32 rfl) rfl ?_
  refine x_iconst (dA D_L_law_9 33 rfl) ?_
  refine x_iadd (dA D_L_law_9 34 rfl) ?_
  refine x_scr (dA D_L_law_9 35 rfl) (by omega) (by omega) (by omega) ?_
  refine x_callV 11 [vI (gX G (i + 1).toNat)] [vI v] (dA D_L_law_9 36 rfl) cw_RL_74 rfl rfl (Nat.le_of_ble_eq_true rfl) (by decide) rfl hd1 (k := k) (n := n) (by omega) (by omega) h.1 h.2 (kI (fun v' M2 g => ?_))
  obtain ⟨rfl, g⟩ := g
  exact x_icmp_same (dA D_L_law_9 37 rfl) (by decide) (kk M2 g)
theorem law_c14 {i : Int} (hd : 61 ≤ d) (hL : gL G ≤ 4608) (hX : ∀ j : Nat, inR (gX G j)) (hi : 0 ≤ i ∧ i + 9 ≤ gL G) (hq : 0 ≤ q ∧ q ≤ 1000) (hI : INV q M) (kk : ∀ M', INV (q + 1) M' → X G Y_L_law d k n 1192 (lxs i) [] M' Q) : X G Y_L_law d (12 + k) (1204 + n) 652 (lxs i) [] M Q := by
  have hd1 : 1 ≤ d := by omega
  refine x_aload_n (dA D_L_law_10 0 rfl) rfl ?_
  refine x_callV 10 [] [] (dA D_L_law_10 1 rfl) cw_RL_75 rfl rfl (Nat.le_of_ble_eq_true rfl) (by decide) rfl hd1 (k := k) (n := n) (by omega) (by omega) (sO_0 hI.sh) (PR.c (P_tear hI (by omega : 60 ≤ d - 1))) (kI (fun v M1 h => ?_))
  refine x_aload_n (dA D_L_law_10 2 rfl) rfl ?_
  refine x_callV 11 [] [vI v] (dA D_L_law_10 3 rfl) cw_RL_78 rfl rfl (Nat.le_of_ble_eq_true rfl) (by decide) rfl hd1 (k := k) (n := n) (by omega) (by omega) h.1 h.2 (kI (fun v' M2 g => ?_))
  obtain ⟨rfl, g⟩ := g
  exact x_icmp_same (dA D_L_law_10 4 rfl) (by decide) (kk M2 g)
theorem law_c15 {i : Int} (hd : 61 ≤ d) (hL : gL G ≤ 4608) (hX : ∀ j : Nat, inR (gX G j)) (hi : 0 ≤ i ∧ i + 9 ≤ gL G) (hq : 0 ≤ q ∧ q ≤ 1000) (hI : INV q M) (kk : ∀ M', INV (q + 1) M' → X G Y_L_law d k n 1192 (lxs i) [] M' Q) : X G Y_L_law d (12 + k) (1204 + n) 665 (lxs i) [] M Q := by
  have hd1 : 1 ≤ d := by omega
  refine x_aload_n (dA D_L_law_10 7 rfl) rfl ?_
  refine x_aload_n (dA D_L_law_10 8 rfl) rfl ?_
  refine x_iload_n (dA D_L_law_10 9 rfl) rfl ?_
  refine x_iconst (dA D_L_law_10 10 rfl) ?_
  refine x_iadd (dA D_L_law_10 11 rfl) ?_
  refine x_scr (dA D_L_law_10 12 rfl) (by omega) (by omega) (by omega) ?_
  refine x_callV 10 [vI (gX G (i + 1).toNat)] [] (dA D_L_law_10 13 rfl) cw_RL_79 rfl rfl (Nat.le_of_ble_eq_true rfl) (by decide) rfl hd1 (k := k) (n := n) (by omega) (by omega) (sO_0 hI.sh) (PR.c (P_worth (hX _) hq hI (by omega : 60 ≤ d - 1))) (kI (fun v M1 h => ?_))
  refine x_aload_n (dA D_L_law_10 14 rfl) rfl ?_
  refine x_aload_n (dA D_L_law_10 15 rfl) rfl ?_
  refine x_iload_n (dA D_L_law_10 16 rfl) rfl ?_
  refine x_iconst (dA D_L_law_10 17 rfl) ?_
  refine x_iadd (dA D_L_law_10 18 rfl) ?_
  refine x_scr (dA D_L_law_10 19 rfl) (by omega) (by omega) (by omega) ?_
  refine x_callV 11 [vI (gX G (i + 1).toNat)] [vI v] (dA D_L_law_10 20 rfl) cw_RL_82 rfl rfl (Nat.le_of_ble_eq_true rfl) (by decide) rfl hd1 (k := k) (n := n) (by omega) (by omega) h.1 h.2 (kI (fun v' M2 g => ?_))
  obtain ⟨rfl, g⟩ := g
  exact x_icmp_same (dA D_L_law_10 21 rfl) (by decide) (kk M2 g)
theorem law_c16 {i : Int} (hd : 61 ≤ d) (hL : gL G ≤ 4608) (hX : ∀ j : Nat, inR (gX G j)) (hi : 0 ≤ i ∧ i + 9 ≤ gL G) (hq : 0 ≤ q ∧ q ≤ 1000) (hI : INV q M) (kk : ∀ M', INV (q + 1) M' → X G Y_L_law d k n 1192 (lxs i) [] M' Q) : X G Y_L_law d (12 + k) (1204 + n) 688 (lxs i) [] M Q := by
  have hd1 : 1 ≤ d := by omega
  refine x_aload_n (dA D_L_law_10 24 rfl) rfl ?_
  refine x_aload_n (dA D_L_law_10 25 rfl) rfl ?_
  refine x_iload_n (dA D_L_law_10 26 rfl) rfl ?_
  refine x_iconst (dA D_L_law_10 27 rfl) ?_
  refine x_iadd (dA D_L_law_10 28 rfl) ?_
  refine x_scr (dA D_L_law_10 29 rfl) (by omega) (by omega) (by omega) ?_
  refine x_aload_n (dA D_L_law_10 30 rfl) rfl ?_
  refine x_iload_n (dA D_L_law_10 31 rfl) rfl ?_
  refine x_iconst (dA D_L_law_10 32 rfl) ?_
  refine x_iadd (dA D_L_law_10 33 rfl) ?_
  refine x_scr (dA D_L_law_10 34 rfl) (by omega) (by omega) (by omega) ?_
  refine x_callV 10 [vI (gX G (i + 1).toNat), vI (gX G (i + 2).toNat)] [] (dA D_L_law_10 35 rfl) cw_RL_83 rfl rfl (Nat.le_of_ble_eq_true rfl) (by decide) rfl hd1 (k := k) (n := n) (by omega) (by omega) (sO_0 hI.sh) (PR.c (P_figures (hX _) (hX _) hq hI (by omega : 60 ≤ d - 1))) (kI (fun v M1 h => ?_))
  refine x_aload_n (dA D_L_law_10 36 rfl) rfl ?_
  refine x_aload_n (dA D_L_law_10 37 rfl) rfl ?_
  refine x_iload_n (dA D_L_law_10 38 rfl) rfl ?_
  refine x_iconst (dA D_L_law_10 39 rfl) ?_
  refine x_iadd (dA D_L_law_11 0 rfl) ?_
  refine x_scr (dA D_L_law_11 1 rfl) (by omega) (by omega) (by omega) ?_
  refine x_aload_n (dA D_L_law_11 2 rfl) rfl ?_
  refine x_iload_n (dA D_L_law_11 3 rfl) rfl ?_
  refine x_iconst (dA D_L_law_11 4 rfl) ?_
  refine x_iadd (dA D_L_law_11 5 rfl) ?_
  refine x_scr (dA D_L_law_11 6 rfl) (by omega) (by omega) (by omega) ?_
  refine x_callV 11 [vI (gX G (i + 1).toNat), vI (gX G (i + 2).toNat)] [vI v] (dA D_L_law_11 7 rfl) cw_RL_86 rfl rfl (Nat.le_of_ble_eq_true rfl) (by decide) rfl hd1 (k := k) (n := n) (by omega) (by omega) h.1 h.2 (kI (fun v' M2 g => ?_))
  obtain ⟨rfl, g⟩ := g
  exact x_icmp_same (dA D_L_law_11 8 rfl) (by decide) (kk M2 g)
theorem law_c17 {i : Int} (hd : 61 ≤ d) (hL : gL G ≤ 4608) (hX : ∀ j : Nat, inR (gX G j)) (hi : 0 ≤ i ∧ i + 9 ≤ gL G) (hq : 0 ≤ q ∧ q ≤ 1000) (hI : INV q M) (kk : ∀ M', INV (q + 1) M' → X G Y_L_law d k n 1192 (lxs i) [] M' Q) : X G Y_L_law d (12 + k) (1204 + n) 721 (lxs i) [] M Q := by
  have hd1 : 1 ≤ d := by omega
  refine x_aload_n (dA D_L_law_11 11 rfl) rfl ?_
  refine x_aload_n (dA D_L_law_11 12 rfl) rfl ?_
  refine x_iload_n (dA D_L_law_11 13 rfl) rfl ?_
  refine x_iconst (dA D_L_law_11 14 rfl) ?_
  refine x_iadd (dA D_L_law_11 15 rfl) ?_
  refine x_scr (dA D_L_law_11 16 rfl) (by omega) (by omega) (by omega) ?_
  refine x_aload_n (dA D_L_law_11 17 rfl) rfl ?_
  refine x_iload_n (dA D_L_law_11 18 rfl) rfl ?_
  refine x_iconst (dA D_L_law_11 19 rfl) ?_
  refine x_iadd (dA D_L_law_11 20 rfl) ?_
  refine x_scr (dA D_L_law_11 21 rfl) (by omega) (by omega) (by omega) ?_
  refine x_aload_n (dA D_L_law_11 22 rfl) rfl ?_
  refine x_iload_n (dA D_L_law_11 23 rfl) rfl ?_
  refine x_iconst (dA D_L_law_11 24 rfl) ?_
  refine x_iadd (dA D_L_law_11 25 rfl) ?_
  refine x_scr (dA D_L_law_11 26 rfl) (by omega) (by omega) (by omega) ?_
  refine x_aload_n (dA D_L_law_11 27 rfl) rfl ?_
  refine x_iload_n (dA D_L_law_11 28 rfl) rfl ?_
  refine x_iconst (dA D_L_law_11 29 rfl) ?_
  refine x_iadd (dA D_L_law_11 30 rfl) ?_
  refine x_scr (dA D_L_law_11 31 rfl) (by omega) (by omega) (by omega) ?_
  refine x_aload_n (dA D_L_law_11 32 rfl) rfl ?_
  refine x_iload_n (dA D_L_law_11 33 rfl) rfl ?_
  refine x_iconst (dA D_L_law_11 34 rfl) ?_
  refine x_iadd (dA D_L_law_11 35 rfl) ?_
  refine x_scr (dA D_L_law_11 36 rfl) (by omega) (by omega) (by omega) ?_
  refine x_callV 10 [vI (gX G (i + 1).toNat), vI (gX G (i + 2).toNat), vI (gX G (i + 3).toNat), vI (gX G (i + 4).toNat), vI (gX G (i + 5).toNat)] [] (dA D_L_law_11 37 rfl) cw_RL_87 rfl rfl (Nat.le_of_ble_eq_true rfl) (by decide) rfl hd1 (k := k) (n := n) (by omega) (by omega) (sO_0 hI.sh) (PR.c (P_next (hX _) (hX _) (hX _) (hX _) (hX _) hq hI (by omega : 60 ≤ d - 1))) (kI (fun v M1 h => ?_))
  refine x_aload_n (dA D_L_law_11 38 rfl) rfl ?_
  refine x_aload_n (dA D_L_law_11 39 rfl) rfl ?_
  refine x_iload_n (dA D_L_law_12 0 rfl) rfl ?_
  refine x_iconst (dA D_L_law_12 1 rfl) ?_
  refine x_iadd (dA D_L_law_12 2 rfl) ?_
  refine x_scr (dA D_L_law_12 3 rfl) (by omega) (by omega) (by omega) ?_
  refine x_aload_n (dA D_L_law_12 4 rfl) rfl ?_
  refine x_iload_n (dA D_L_law_12 5 rfl) rfl ?_
  refine x_iconst (dA D_L_law_12 6 rfl) ?_
  refine x_iadd (dA D_L_law_12 7 rfl) ?_
  refine x_scr (dA D_L_law_12 8 rfl) (by omega) (by omega) (by omega) ?_
  refine x_aload_n (dA D_L_law_12 9 rfl) rfl ?_
  refine x_iload_n (dA D_L_law_12 10 rfl) rfl ?_
  refine x_iconst (dA D_L_law_12 11 rfl) ?_
  refine x_iadd (dA D_L_law_12 12 rfl) ?_
  refine x_scr (dA D_L_law_12 13 rfl) (by omega) (by omega) (by omega) ?_
  refine x_aload_n (dA D_L_law_12 14 rfl) rfl ?_
  refine x_iload_n (dA D_L_law_12 15 rfl) rfl ?_
  refine x_iconst (dA D_L_law_12 16 rfl) ?_
  refine x_iadd (dA D_L_law_12 17 rfl) ?_
  refine x_scr (dA D_L_law_12 18 rfl) (by omega) (by omega) (by omega) ?_
  refine x_aload_n (dA D_L_law_12 19 rfl) rfl ?_
  refine x_iload_n (dA D_L_law_12 20 rfl) rfl ?_
  refine x_iconst (dA D_L_law_12 21 rfl) ?_
  refine x_iadd (dA D_L_law_12 22 rfl) ?_
  refine x_scr (dA D_L_law_12 23 rfl) (by omega) (by omega) (by omega) ?_
  refine x_callV 11 [vI (gX G (i + 1).toNat), vI (gX G (i + 2).toNat), vI (gX G (i + 3).toNat), vI (gX G (i + 4).toNat), vI (gX G (i + 5).toNat)] [vI v] (dA D_L_law_12 24 rfl) cw_RL_90 rfl rfl (Nat.le_of_ble_eq_true rfl) (by decide) rfl hd1 (k := k) (n := n) (by omega) (by omega) h.1 h.2 (kI (fun v' M2 g => ?_))
  obtain ⟨rfl, g⟩ := g
  exact x_icmp_same (dA D_L_law_12 25 rfl) (by decide) (kk M2 g)
theorem law_c18 {i : Int} (hd : 61 ≤ d) (hL : gL G ≤ 4608) (hX : ∀ j : Nat, inR (gX G j)) (hi : 0 ≤ i ∧ i + 9 ≤ gL G) (hq : 0 ≤ q ∧ q ≤ 1000) (hI : INV q M) (kk : ∀ M', INV (q + 1) M' → X G Y_L_law d k n 1192 (lxs i) [] M' Q) : X G Y_L_law d (12 + k) (1204 + n) 784 (lxs i) [] M Q := by
  have hd1 : 1 ≤ d := by omega
  refine x_aload_n (dA D_L_law_12 28 rfl) rfl ?_
  refine x_aload_n (dA D_L_law_12 29 rfl) rfl ?_
  refine x_iload_n (dA D_L_law_12 30 rfl) rfl ?_
  refine x_iconst (dA D_L_law_12 31 rfl) ?_
  refine x_iadd (dA D_L_law_12 32 rfl) ?_
  refine x_scr (dA D_L_law_12 33 rfl) (by omega) (by omega) (by omega) ?_
  refine x_callV 10 [vI (gX G (i + 1).toNat)] [] (dA D_L_law_12 34 rfl) cw_RL_91 rfl rfl (Nat.le_of_ble_eq_true rfl) (by decide) rfl hd1 (k := k) (n := n) (by omega) (by omega) (sO_0 hI.sh) (PR.c (P_fixed (hX _) hq hI (by omega : 60 ≤ d - 1))) (kI (fun v M1 h => ?_))
  refine x_aload_n (dA D_L_law_12 35 rfl) rfl ?_
  refine x_aload_n (dA D_L_law_12 36 rfl) rfl ?_
  refine x_iload_n (dA D_L_law_12 37 rfl) rfl ?_
  refine x_iconst (dA D_L_law_12 38 rfl) ?_
  refine x_iadd (dA D_L_law_12 39 rfl) ?_
  refine x_scr (dA D_L_law_13 0 rfl) (by omega) (by omega) (by omega) ?_
  refine x_callV 11 [vI (gX G (i + 1).toNat)] [vI v] (dA D_L_law_13 1 rfl) cw_RL_94 rfl rfl (Nat.le_of_ble_eq_true rfl) (by decide) rfl hd1 (k := k) (n := n) (by omega) (by omega) h.1 h.2 (kI (fun v' M2 g => ?_))
  obtain ⟨rfl, g⟩ := g
  exact x_icmp_same (dA D_L_law_13 2 rfl) (by decide) (kk M2 g)
theorem law_c19 {i : Int} (hd : 61 ≤ d) (hL : gL G ≤ 4608) (hX : ∀ j : Nat, inR (gX G j)) (hi : 0 ≤ i ∧ i + 9 ≤ gL G) (hq : 0 ≤ q ∧ q ≤ 1000) (hI : INV q M) (kk : ∀ M', INV (q + 1) M' → X G Y_L_law d k n 1192 (lxs i) [] M' Q) : X G Y_L_law d (12 + k) (1204 + n) 807 (lxs i) [] M Q := by
  have hd1 : 1 ≤ d := by omega
  refine x_aload_n (dA D_L_law_13 5 rfl) rfl ?_
  refine x_callV 10 [] [] (dA D_L_law_13 6 rfl) cw_RL_95 rfl rfl (Nat.le_of_ble_eq_true rfl) (by decide) rfl hd1 (k := k) (n := n) (by omega) (by omega) (sO_0 hI.sh) (PR.c (P_rows hI (by omega : 60 ≤ d - 1))) (kI (fun v M1 h => ?_))
  refine x_aload_n (dA D_L_law_13 7 rfl) rfl ?_
  refine x_callV 11 [] [vI v] (dA D_L_law_13 8 rfl) cw_RL_98 rfl rfl (Nat.le_of_ble_eq_true rfl) (by decide) rfl hd1 (k := k) (n := n) (by omega) (by omega) h.1 h.2 (kI (fun v' M2 g => ?_))
  obtain ⟨rfl, g⟩ := g
  exact x_icmp_same (dA D_L_law_13 9 rfl) (by decide) (kk M2 g)
theorem law_c20 {i : Int} (hd : 61 ≤ d) (hL : gL G ≤ 4608) (hX : ∀ j : Nat, inR (gX G j)) (hi : 0 ≤ i ∧ i + 9 ≤ gL G) (hq : 0 ≤ q ∧ q ≤ 1000) (hI : INV q M) (kk : ∀ M', INV (q + 1) M' → X G Y_L_law d k n 1192 (lxs i) [] M' Q) : X G Y_L_law d (12 + k) (1204 + n) 820 (lxs i) [] M Q := by
  have hd1 : 1 ≤ d := by omega
  refine x_aload_n (dA D_L_law_13 12 rfl) rfl ?_
  refine x_callV 10 [] [] (dA D_L_law_13 13 rfl) cw_RL_99 rfl rfl (Nat.le_of_ble_eq_true rfl) (by decide) rfl hd1 (k := k) (n := n) (by omega) (by omega) (sO_0 hI.sh) (PR.c (P_seeing hq hI (by omega : 60 ≤ d - 1))) (kI (fun v M1 h => ?_))
  refine x_aload_n (dA D_L_law_13 14 rfl) rfl ?_
  refine x_callV 11 [] [vI v] (dA D_L_law_13 15 rfl) cw_RL_102 rfl rfl (Nat.le_of_ble_eq_true rfl) (by decide) rfl hd1 (k := k) (n := n) (by omega) (by omega) h.1 h.2 (kI (fun v' M2 g => ?_))
  obtain ⟨rfl, g⟩ := g
  exact x_icmp_same (dA D_L_law_13 16 rfl) (by decide) (kk M2 g)
theorem law_c21 {i : Int} (hd : 61 ≤ d) (hL : gL G ≤ 4608) (hX : ∀ j : Nat, inR (gX G j)) (hi : 0 ≤ i ∧ i + 9 ≤ gL G) (hq : 0 ≤ q ∧ q ≤ 1000) (hI : INV q M) (kk : ∀ M', INV (q + 1) M' → X G Y_L_law d k n 1192 (lxs i) [] M' Q) : X G Y_L_law d (12 + k) (1204 + n) 833 (lxs i) [] M Q := by
  have hd1 : 1 ≤ d := by omega
  refine x_aload_n (dA D_L_law_13 19 rfl) rfl ?_
  refine x_aload_n (dA D_L_law_13 20 rfl) rfl ?_
  refine x_iload_n (dA D_L_law_13 21 rfl) rfl ?_
  refine x_iconst (dA D_L_law_13 22 rfl) ?_
  refine x_iadd (dA D_L_law_13 23 rfl) ?_
  refine x_scr (dA D_L_law_13 24 rfl) (by omega) (by omega) (by omega) ?_
  refine x_callV 10 [vI (gX G (i + 1).toNat)] [] (dA D_L_law_13 25 rfl) cw_RL_103 rfl rfl (Nat.le_of_ble_eq_true rfl) (by decide) rfl hd1 (k := k) (n := n) (by omega) (by omega) (sO_0 hI.sh) (PR.c (P_loss (hX _) hq hI (by omega : 60 ≤ d - 1))) (kI (fun v M1 h => ?_))
  refine x_aload_n (dA D_L_law_13 26 rfl) rfl ?_
  refine x_aload_n (dA D_L_law_13 27 rfl) rfl ?_
  refine x_iload_n (dA D_L_law_13 28 rfl) rfl ?_
  refine x_iconst (dA D_L_law_13 29 rfl) ?_
  refine x_iadd (dA D_L_law_13 30 rfl) ?_
  refine x_scr (dA D_L_law_13 31 rfl) (by omega) (by omega) (by omega) ?_
  refine x_callV 11 [vI (gX G (i + 1).toNat)] [vI v] (dA D_L_law_13 32 rfl) cw_RL_106 rfl rfl (Nat.le_of_ble_eq_true rfl) (by decide) rfl hd1 (k := k) (n := n) (by omega) (by omega) h.1 h.2 (kI (fun v' M2 g => ?_))
  obtain ⟨rfl, g⟩ := g
  exact x_icmp_same (dA D_L_law_13 33 rfl) (by decide) (kk M2 g)
theorem law_c22 {i : Int} (hd : 61 ≤ d) (hL : gL G ≤ 4608) (hX : ∀ j : Nat, inR (gX G j)) (hi : 0 ≤ i ∧ i + 9 ≤ gL G) (hq : 0 ≤ q ∧ q ≤ 1000) (hI : INV q M) (kk : ∀ M', INV (q + 1) M' → X G Y_L_law d k n 1192 (lxs i) [] M' Q) : X G Y_L_law d (12 + k) (1204 + n) 856 (lxs i) [] M Q := by
  have hd1 : 1 ≤ d := by omega
  refine x_aload_n (dA D_L_law_13 36 rfl) rfl ?_
  refine x_aload_n (dA D_L_law_13 37 rfl) rfl ?_
  refine x_iload_n (dA D_L_law_13 38 rfl) rfl ?_
  refine x_iconst (dA D_L_law_13 39 rfl) ?_
  refine x_iadd (dA D_L_law_14 0 rfl) ?_
  refine x_scr (dA D_L_law_14 1 rfl) (by omega) (by omega) (by omega) ?_
  refine x_callV 10 [vI (gX G (i + 1).toNat)] [] (dA D_L_law_14 2 rfl) cw_RL_107 rfl rfl (Nat.le_of_ble_eq_true rfl) (by decide) rfl hd1 (k := k) (n := n) (by omega) (by omega) (sO_0 hI.sh) (PR.c (P_evening (hX _) hq hI (by omega : 60 ≤ d - 1))) (kI (fun v M1 h => ?_))
  refine x_aload_n (dA D_L_law_14 3 rfl) rfl ?_
  refine x_aload_n (dA D_L_law_14 4 rfl) rfl ?_
  refine x_iload_n (dA D_L_law_14 5 rfl) rfl ?_
  refine x_iconst (dA D_L_law_14 6 rfl) ?_
  refine x_iadd (dA D_L_law_14 7 rfl) ?_
  refine x_scr (dA D_L_law_14 8 rfl) (by omega) (by omega) (by omega) ?_
  refine x_callV 11 [vI (gX G (i + 1).toNat)] [vI v] (dA D_L_law_14 9 rfl) cw_RL_110 rfl rfl (Nat.le_of_ble_eq_true rfl) (by decide) rfl hd1 (k := k) (n := n) (by omega) (by omega) h.1 h.2 (kI (fun v' M2 g => ?_))
  obtain ⟨rfl, g⟩ := g
  exact x_icmp_same (dA D_L_law_14 10 rfl) (by decide) (kk M2 g)
theorem law_c23 {i : Int} (hd : 61 ≤ d) (hL : gL G ≤ 4608) (hX : ∀ j : Nat, inR (gX G j)) (hi : 0 ≤ i ∧ i + 9 ≤ gL G) (hq : 0 ≤ q ∧ q ≤ 1000) (hI : INV q M) (kk : ∀ M', INV (q + 1) M' → X G Y_L_law d k n 1192 (lxs i) [] M' Q) : X G Y_L_law d (12 + k) (1204 + n) 879 (lxs i) [] M Q := by
  have hd1 : 1 ≤ d := by omega
  refine x_aload_n (dA D_L_law_14 13 rfl) rfl ?_
  refine x_aload_n (dA D_L_law_14 14 rfl) rfl ?_
  refine x_iload_n (dA D_L_law_14 15 rfl) rfl ?_
  refine x_iconst (dA D_L_law_14 16 rfl) ?_
  refine x_iadd (dA D_L_law_14 17 rfl) ?_
  refine x_scr (dA D_L_law_14 18 rfl) (by omega) (by omega) (by omega) ?_
  refine x_aload_n (dA D_L_law_14 19 rfl) rfl ?_
  refine x_iload_n (dA D_L_law_14 20 rfl) rfl ?_
  refine x_iconst (dA D_L_law_14 21 rfl) ?_
  refine x_iadd (dA D_L_law_14 22 rfl) ?_
  refine x_scr (dA D_L_law_14 23 rfl) (by omega) (by omega) (by omega) ?_
  refine x_callV 10 [vI (gX G (i + 1).toNat), vI (gX G (i + 2).toNat)] [] (dA D_L_law_14 24 rfl) cw_RL_111 rfl rfl (Nat.le_of_ble_eq_true rfl) (by decide) rfl hd1 (k := k) (n := n) (by omega) (by omega) (sO_0 hI.sh) (PR.c (P_odds (hX _) (hX _) hq hI (by omega : 60 ≤ d - 1))) (kI (fun v M1 h => ?_))
  refine x_aload_n (dA D_L_law_14 25 rfl) rfl ?_
  refine x_aload_n (dA D_L_law_14 26 rfl) rfl ?_
  refine x_iload_n (dA D_L_law_14 27 rfl) rfl ?_
  refine x_iconst (dA D_L_law_14 28 rfl) ?_
  refine x_iadd (dA D_L_law_14 29 rfl) ?_
  refine x_scr (dA D_L_law_14 30 rfl) (by omega) (by omega) (by omega) ?_
  refine x_aload_n (dA D_L_law_14 31 rfl) rfl ?_
  refine x_iload_n (dA D_L_law_14 32 rfl) rfl ?_
  refine x_iconst (dA D_L_law_14 33 rfl) ?_
  refine x_iadd (dA D_L_law_14 34 rfl) ?_
  refine x_scr (dA D_L_law_14 35 rfl) (by omega) (by omega) (by omega) ?_
  refine x_callV 11 [vI (gX G (i + 1).toNat), vI (gX G (i + 2).toNat)] [vI v] (dA D_L_law_14 36 rfl) cw_RL_114 rfl rfl (Nat.le_of_ble_eq_true rfl) (by decide) rfl hd1 (k := k) (n := n) (by omega) (by omega) h.1 h.2 (kI (fun v' M2 g => ?_))
  obtain ⟨rfl, g⟩ := g
  exact x_icmp_same (dA D_L_law_14 37 rfl) (by decide) (kk M2 g)
theorem law_c24 {i : Int} (hd : 61 ≤ d) (hL : gL G ≤ 4608) (hX : ∀ j : Nat, inR (gX G j)) (hi : 0 ≤ i ∧ i + 9 ≤ gL G) (hq : 0 ≤ q ∧ q ≤ 1000) (hI : INV q M) (kk : ∀ M', INV (q + 1) M' → X G Y_L_law d k n 1192 (lxs i) [] M' Q) : X G Y_L_law d (12 + k) (1204 + n) 912 (lxs i) [] M Q := by
  have hd1 : 1 ≤ d := by omega
  refine x_aload_n (dA D_L_law_15 0 rfl) rfl ?_
  refine x_aload_n (dA D_L_law_15 1 rfl) rfl ?_
  refine x_iload_n (dA D_L_law_15 2 rfl) rfl ?_
  refine x_iconst (dA D_L_law_15 3 rfl) ?_
  refine x_iadd (dA D_L_law_15 4 rfl) ?_
  refine x_scr (dA D_L_law_15 5 rfl) (by omega) (by omega) (by omega) ?_
  refine x_callV 10 [vI (gX G (i + 1).toNat)] [] (dA D_L_law_15 6 rfl) cw_RL_115 rfl rfl (Nat.le_of_ble_eq_true rfl) (by decide) rfl hd1 (k := k) (n := n) (by omega) (by omega) (sO_0 hI.sh) (PR.c (P_heads (hX _) hI (by omega : 60 ≤ d - 1))) (kI (fun v M1 h => ?_))
  refine x_aload_n (dA D_L_law_15 7 rfl) rfl ?_
  refine x_aload_n (dA D_L_law_15 8 rfl) rfl ?_
  refine x_iload_n (dA D_L_law_15 9 rfl) rfl ?_
  refine x_iconst (dA D_L_law_15 10 rfl) ?_
  refine x_iadd (dA D_L_law_15 11 rfl) ?_
  refine x_scr (dA D_L_law_15 12 rfl) (by omega) (by omega) (by omega) ?_
  refine x_callV 11 [vI (gX G (i + 1).toNat)] [vI v] (dA D_L_law_15 13 rfl) cw_RL_118 rfl rfl (Nat.le_of_ble_eq_true rfl) (by decide) rfl hd1 (k := k) (n := n) (by omega) (by omega) h.1 h.2 (kI (fun v' M2 g => ?_))
  obtain ⟨rfl, g⟩ := g
  exact x_icmp_same (dA D_L_law_15 14 rfl) (by decide) (kk M2 g)
theorem law_c25 {i : Int} (hd : 61 ≤ d) (hL : gL G ≤ 4608) (hX : ∀ j : Nat, inR (gX G j)) (hi : 0 ≤ i ∧ i + 9 ≤ gL G) (hq : 0 ≤ q ∧ q ≤ 1000) (hI : INV q M) (kk : ∀ M', INV (q + 1) M' → X G Y_L_law d k n 1192 (lxs i) [] M' Q) : X G Y_L_law d (12 + k) (1204 + n) 935 (lxs i) [] M Q := by
  have hd1 : 1 ≤ d := by omega
  refine x_aload_n (dA D_L_law_15 17 rfl) rfl ?_
  refine x_aload_n (dA D_L_law_15 18 rfl) rfl ?_
  refine x_iload_n (dA D_L_law_15 19 rfl) rfl ?_
  refine x_iconst (dA D_L_law_15 20 rfl) ?_
  refine x_iadd (dA D_L_law_15 21 rfl) ?_
  refine x_scr (dA D_L_law_15 22 rfl) (by omega) (by omega) (by omega) ?_
  refine x_aload_n (dA D_L_law_15 23 rfl) rfl ?_
  refine x_iload_n (dA D_L_law_15 24 rfl) rfl ?_
  refine x_iconst (dA D_L_law_15 25 rfl) ?_
  refine x_iadd (dA D_L_law_15 26 rfl) ?_
  refine x_scr (dA D_L_law_15 27 rfl) (by omega) (by omega) (by omega) ?_
  refine x_callV 10 [vI (gX G (i + 1).toNat), vI (gX G (i + 2).toNat)] [] (dA D_L_law_15 28 rfl) cw_RL_119 rfl rfl (Nat.le_of_ble_eq_true rfl) (by decide) rfl hd1 (k := k) (n := n) (by omega) (by omega) (sO_0 hI.sh) (PR.c (P_stayed (hX _) (hX _) hI (by omega : 60 ≤ d - 1))) (kI (fun v M1 h => ?_))
  refine x_aload_n (dA D_L_law_15 29 rfl) rfl ?_
  refine x_aload_n (dA D_L_law_15 30 rfl) rfl ?_
  refine x_iload_n (dA D_L_law_15 31 rfl) rfl ?_
  refine x_iconst (dA D_L_law_15 32 rfl) ?_
  refine x_iadd (dA D_L_law_15 33 rfl) ?_
  refine x_scr (dA D_L_law_15 34 rfl) (by omega) (by omega) (by omega) ?_
  refine x_aload_n (dA D_L_law_15 35 rfl) rfl ?_
  refine x_iload_n (dA D_L_law_15 36 rfl) rfl ?_
  refine x_iconst (dA D_L_law_15 37 rfl) ?_
  refine x_iadd (dA D_L_law_15 38 rfl) ?_
  refine x_scr (dA D_L_law_15 39 rfl) (by omega) (by omega) (by omega) ?_
  refine x_callV 11 [vI (gX G (i + 1).toNat), vI (gX G (i + 2).toNat)] [vI v] (dA D_L_law_16 0 rfl) cw_RL_122 rfl rfl (Nat.le_of_ble_eq_true rfl) (by decide) rfl hd1 (k := k) (n := n) (by omega) (by omega) h.1 h.2 (kI (fun v' M2 g => ?_))
  obtain ⟨rfl, g⟩ := g
  exact x_icmp_same (dA D_L_law_16 1 rfl) (by decide) (kk M2 g)
theorem law_c26 {i : Int} (hd : 61 ≤ d) (hL : gL G ≤ 4608) (hX : ∀ j : Nat, inR (gX G j)) (hi : 0 ≤ i ∧ i + 9 ≤ gL G) (hq : 0 ≤ q ∧ q ≤ 1000) (hI : INV q M) (kk : ∀ M', INV (q + 1) M' → X G Y_L_law d k n 1192 (lxs i) [] M' Q) : X G Y_L_law d (12 + k) (1204 + n) 968 (lxs i) [] M Q := by
  have hd1 : 1 ≤ d := by omega
  refine x_aload_n (dA D_L_law_16 4 rfl) rfl ?_
  refine x_aload_n (dA D_L_law_16 5 rfl) rfl ?_
  refine x_iload_n (dA D_L_law_16 6 rfl) rfl ?_
  refine x_iconst (dA D_L_law_16 7 rfl) ?_
  refine x_iadd (dA D_L_law_16 8 rfl) ?_
  refine x_scr (dA D_L_law_16 9 rfl) (by omega) (by omega) (by omega) ?_
  refine x_callV 10 [vI (gX G (i + 1).toNat)] [] (dA D_L_law_16 10 rfl) cw_RL_123 rfl rfl (Nat.le_of_ble_eq_true rfl) (by decide) rfl hd1 (k := k) (n := n) (by omega) (by omega) (sO_0 hI.sh) (PR.c (P_were (hX _) hI (by omega : 60 ≤ d - 1))) (kI (fun v M1 h => ?_))
  refine x_aload_n (dA D_L_law_16 11 rfl) rfl ?_
  refine x_aload_n (dA D_L_law_16 12 rfl) rfl ?_
  refine x_iload_n (dA D_L_law_16 13 rfl) rfl ?_
  refine x_iconst (dA D_L_law_16 14 rfl) ?_
  refine x_iadd (dA D_L_law_16 15 rfl) ?_
  refine x_scr (dA D_L_law_16 16 rfl) (by omega) (by omega) (by omega) ?_
  refine x_callV 11 [vI (gX G (i + 1).toNat)] [vI v] (dA D_L_law_16 17 rfl) cw_RL_126 rfl rfl (Nat.le_of_ble_eq_true rfl) (by decide) rfl hd1 (k := k) (n := n) (by omega) (by omega) h.1 h.2 (kI (fun v' M2 g => ?_))
  obtain ⟨rfl, g⟩ := g
  exact x_icmp_same (dA D_L_law_16 18 rfl) (by decide) (kk M2 g)
theorem law_c27 {i : Int} (hd : 61 ≤ d) (hL : gL G ≤ 4608) (hX : ∀ j : Nat, inR (gX G j)) (hi : 0 ≤ i ∧ i + 9 ≤ gL G) (hq : 0 ≤ q ∧ q ≤ 1000) (hI : INV q M) (kk : ∀ M', INV (q + 1) M' → X G Y_L_law d k n 1192 (lxs i) [] M' Q) : X G Y_L_law d (12 + k) (1204 + n) 991 (lxs i) [] M Q := by
  have hd1 : 1 ≤ d := by omega
  refine x_aload_n (dA D_L_law_16 21 rfl) rfl ?_
  refine x_aload_n (dA D_L_law_16 22 rfl) rfl ?_
  refine x_iload_n (dA D_L_law_16 23 rfl) rfl ?_
  refine x_iconst (dA D_L_law_16 24 rfl) ?_
  refine x_iadd (dA D_L_law_16 25 rfl) ?_
  refine x_scr (dA D_L_law_16 26 rfl) (by omega) (by omega) (by omega) ?_
  refine x_aload_n (dA D_L_law_16 27 rfl) rfl ?_
  refine x_iload_n (dA D_L_law_16 28 rfl) rfl ?_
  refine x_iconst (dA D_L_law_16 29 rfl) ?_
  refine x_iadd (dA D_L_law_16 30 rfl) ?_
  refine x_scr (dA D_L_law_16 31 rfl) (by omega) (by omega) (by omega) ?_
  refine x_callV 10 [vI (gX G (i + 1).toNat), vI (gX G (i + 2).toNat)] [] (dA D_L_law_16 32 rfl) cw_RL_127 rfl rfl (Nat.le_of_ble_eq_true rfl) (by decide) rfl hd1 (k := k) (n := n) (by omega) (by omega) (sO_0 hI.sh) (PR.c (P_run (hX _) (hX _) hq hI (by omega : 60 ≤ d - 1))) (kI (fun v M1 h => ?_))
  refine x_aload_n (dA D_L_law_16 33 rfl) rfl ?_
  refine x_aload_n (dA D_L_law_16 34 rfl) rfl ?_
  refine x_iload_n (dA D_L_law_16 35 rfl) rfl ?_
  refine x_iconst (dA D_L_law_16 36 rfl) ?_
  refine x_iadd (dA D_L_law_16 37 rfl) ?_
  refine x_scr (dA D_L_law_16 38 rfl) (by omega) (by omega) (by omega) ?_
  refine x_aload_n (dA D_L_law_16 39 rfl) rfl ?_
  refine x_iload_n (dA D_L_law_17 0 rfl) rfl ?_
  refine x_iconst (dA D_L_law_17 1 rfl) ?_
  refine x_iadd (dA D_L_law_17 2 rfl) ?_
  refine x_scr (dA D_L_law_17 3 rfl) (by omega) (by omega) (by omega) ?_
  refine x_callV 11 [vI (gX G (i + 1).toNat), vI (gX G (i + 2).toNat)] [vI v] (dA D_L_law_17 4 rfl) cw_RL_130 rfl rfl (Nat.le_of_ble_eq_true rfl) (by decide) rfl hd1 (k := k) (n := n) (by omega) (by omega) h.1 h.2 (kI (fun v' M2 g => ?_))
  obtain ⟨rfl, g⟩ := g
  exact x_icmp_same (dA D_L_law_17 5 rfl) (by decide) (kk M2 g)
theorem law_c28 {i : Int} (hd : 61 ≤ d) (hL : gL G ≤ 4608) (hX : ∀ j : Nat, inR (gX G j)) (hi : 0 ≤ i ∧ i + 9 ≤ gL G) (hq : 0 ≤ q ∧ q ≤ 1000) (hI : INV q M) (kk : ∀ M', INV (q + 1) M' → X G Y_L_law d k n 1192 (lxs i) [] M' Q) : X G Y_L_law d (12 + k) (1204 + n) 1024 (lxs i) [] M Q := by
  have hd1 : 1 ≤ d := by omega
  refine x_aload_n (dA D_L_law_17 8 rfl) rfl ?_
  refine x_aload_n (dA D_L_law_17 9 rfl) rfl ?_
  refine x_iload_n (dA D_L_law_17 10 rfl) rfl ?_
  refine x_iconst (dA D_L_law_17 11 rfl) ?_
  refine x_iadd (dA D_L_law_17 12 rfl) ?_
  refine x_scr (dA D_L_law_17 13 rfl) (by omega) (by omega) (by omega) ?_
  refine x_aload_n (dA D_L_law_17 14 rfl) rfl ?_
  refine x_iload_n (dA D_L_law_17 15 rfl) rfl ?_
  refine x_iconst (dA D_L_law_17 16 rfl) ?_
  refine x_iadd (dA D_L_law_17 17 rfl) ?_
  refine x_scr (dA D_L_law_17 18 rfl) (by omega) (by omega) (by omega) ?_
  refine x_callV 10 [vI (gX G (i + 1).toNat), vI (gX G (i + 2).toNat)] [] (dA D_L_law_17 19 rfl) cw_RL_131 rfl rfl (Nat.le_of_ble_eq_true rfl) (by decide) rfl hd1 (k := k) (n := n) (by omega) (by omega) (sO_0 hI.sh) (PR.c (P_ran (hX _) (hX _) hI (by omega : 60 ≤ d - 1))) (kI (fun v M1 h => ?_))
  refine x_aload_n (dA D_L_law_17 20 rfl) rfl ?_
  refine x_aload_n (dA D_L_law_17 21 rfl) rfl ?_
  refine x_iload_n (dA D_L_law_17 22 rfl) rfl ?_
  refine x_iconst (dA D_L_law_17 23 rfl) ?_
  refine x_iadd (dA D_L_law_17 24 rfl) ?_
  refine x_scr (dA D_L_law_17 25 rfl) (by omega) (by omega) (by omega) ?_
  refine x_aload_n (dA D_L_law_17 26 rfl) rfl ?_
  refine x_iload_n (dA D_L_law_17 27 rfl) rfl ?_
  refine x_iconst (dA D_L_law_17 28 rfl) ?_
  refine x_iadd (dA D_L_law_17 29 rfl) ?_
  refine x_scr (dA D_L_law_17 30 rfl) (by omega) (by omega) (by omega) ?_
  refine x_callV 11 [vI (gX G (i + 1).toNat), vI (gX G (i + 2).toNat)] [vI v] (dA D_L_law_17 31 rfl) cw_RL_134 rfl rfl (Nat.le_of_ble_eq_true rfl) (by decide) rfl hd1 (k := k) (n := n) (by omega) (by omega) h.1 h.2 (kI (fun v' M2 g => ?_))
  obtain ⟨rfl, g⟩ := g
  exact x_icmp_same (dA D_L_law_17 32 rfl) (by decide) (kk M2 g)
theorem law_c29 {i : Int} (hd : 61 ≤ d) (hL : gL G ≤ 4608) (hX : ∀ j : Nat, inR (gX G j)) (hi : 0 ≤ i ∧ i + 9 ≤ gL G) (hq : 0 ≤ q ∧ q ≤ 1000) (hI : INV q M) (kk : ∀ M', INV (q + 1) M' → X G Y_L_law d k n 1192 (lxs i) [] M' Q) : X G Y_L_law d (12 + k) (1204 + n) 1057 (lxs i) [] M Q := by
  have hd1 : 1 ≤ d := by omega
  refine x_aload_n (dA D_L_law_17 35 rfl) rfl ?_
  refine x_aload_n (dA D_L_law_17 36 rfl) rfl ?_
  refine x_iload_n (dA D_L_law_17 37 rfl) rfl ?_
  refine x_iconst (dA D_L_law_17 38 rfl) ?_
  refine x_iadd (dA D_L_law_17 39 rfl) ?_
  refine x_scr (dA D_L_law_18 0 rfl) (by omega) (by omega) (by omega) ?_
  refine x_aload_n (dA D_L_law_18 1 rfl) rfl ?_
  refine x_iload_n (dA D_L_law_18 2 rfl) rfl ?_
  refine x_iconst (dA D_L_law_18 3 rfl) ?_
  refine x_iadd (dA D_L_law_18 4 rfl) ?_
  refine x_scr (dA D_L_law_18 5 rfl) (by omega) (by omega) (by omega) ?_
  refine x_aload_n (dA D_L_law_18 6 rfl) rfl ?_
  refine x_iload_n (dA D_L_law_18 7 rfl) rfl ?_
  refine x_iconst (dA D_L_law_18 8 rfl) ?_
  refine x_iadd (dA D_L_law_18 9 rfl) ?_
  refine x_scr (dA D_L_law_18 10 rfl) (by omega) (by omega) (by omega) ?_
  refine x_aload_n (dA D_L_law_18 11 rfl) rfl ?_
  refine x_iload_n (dA D_L_law_18 12 rfl) rfl ?_
  refine x_iconst (dA D_L_law_18 13 rfl) ?_
  refine x_iadd (dA D_L_law_18 14 rfl) ?_
  refine x_scr (dA D_L_law_18 15 rfl) (by omega) (by omega) (by omega) ?_
  refine x_callV 10 [vI (gX G (i + 1).toNat), vI (gX G (i + 2).toNat), vI (gX G (i + 3).toNat), vI (gX G (i + 4).toNat)] [] (dA D_L_law_18 16 rfl) cw_RL_135 rfl rfl (Nat.le_of_ble_eq_true rfl) (by decide) rfl hd1 (k := k) (n := n) (by omega) (by omega) (sO_0 hI.sh) (PR.c (P_nights (hX _) (hX _) (hX _) (hX _) hq hI (by omega : 60 ≤ d - 1))) (kI (fun v M1 h => ?_))
  refine x_aload_n (dA D_L_law_18 17 rfl) rfl ?_
  refine x_aload_n (dA D_L_law_18 18 rfl) rfl ?_
  refine x_iload_n (dA D_L_law_18 19 rfl) rfl ?_
  refine x_iconst (dA D_L_law_18 20 rfl) ?_
  refine x_iadd (dA D_L_law_18 21 rfl) ?_
  refine x_scr (dA D_L_law_18 22 rfl) (by omega) (by omega) (by omega) ?_
  refine x_aload_n (dA D_L_law_18 23 rfl) rfl ?_
  refine x_iload_n (dA D_L_law_18 24 rfl) rfl ?_
  refine x_iconst (dA D_L_law_18 25 rfl) ?_
  refine x_iadd (dA D_L_law_18 26 rfl) ?_
  refine x_scr (dA D_L_law_18 27 rfl) (by omega) (by omega) (by omega) ?_
  refine x_aload_n (dA D_L_law_18 28 rfl) rfl ?_
  refine x_iload_n (dA D_L_law_18 29 rfl) rfl ?_
  refine x_iconst (dA D_L_law_18 30 rfl) ?_
  refine x_iadd (dA D_L_law_18 31 rfl) ?_
  refine x_scr (dA D_L_law_18 32 rfl) (by omega) (by omega) (by omega) ?_
  refine x_aload_n (dA D_L_law_18 33 rfl) rfl ?_
  refine x_iload_n (dA D_L_law_18 34 rfl) rfl ?_
  refine x_iconst (dA D_L_law_18 35 rfl) ?_
  refine x_iadd (dA D_L_law_18 36 rfl) ?_
  refine x_scr (dA D_L_law_18 37 rfl) (by omega) (by omega) (by omega) ?_
  refine x_callV 11 [vI (gX G (i + 1).toNat), vI (gX G (i + 2).toNat), vI (gX G (i + 3).toNat), vI (gX G (i + 4).toNat)] [vI v] (dA D_L_law_18 38 rfl) cw_RL_139 rfl rfl (Nat.le_of_ble_eq_true rfl) (by decide) rfl hd1 (k := k) (n := n) (by omega) (by omega) h.1 h.2 (kI (fun v' M2 g => ?_))
  obtain ⟨rfl, g⟩ := g
  exact x_icmp_same (dA D_L_law_18 39 rfl) (by decide) (kk M2 g)
theorem law_c30 {i : Int} (hd : 61 ≤ d) (hL : gL G ≤ 4608) (hX : ∀ j : Nat, inR (gX G j)) (hi : 0 ≤ i ∧ i + 9 ≤ gL G) (hq : 0 ≤ q ∧ q ≤ 1000) (hI : INV q M) (kk : ∀ M', INV (q + 1) M' → X G Y_L_law d k n 1192 (lxs i) [] M' Q) : X G Y_L_law d (12 + k) (1204 + n) 1110 (lxs i) [] M Q := by
  have hd1 : 1 ≤ d := by omega
  refine x_aload_n (dA D_L_law_19 2 rfl) rfl ?_
  refine x_aload_n (dA D_L_law_19 3 rfl) rfl ?_
  refine x_iload_n (dA D_L_law_19 4 rfl) rfl ?_
  refine x_iconst (dA D_L_law_19 5 rfl) ?_
  refine x_iadd (dA D_L_law_19 6 rfl) ?_
  refine x_scr (dA D_L_law_19 7 rfl) (by omega) (by omega) (by omega) ?_
  refine x_callV 10 [vI (gX G (i + 1).toNat)] [] (dA D_L_law_19 8 rfl) cw_RL_140 rfl rfl (Nat.le_of_ble_eq_true rfl) (by decide) rfl hd1 (k := k) (n := n) (by omega) (by omega) (sO_0 hI.sh) (PR.c (P_image (hX _) hI (by omega : 60 ≤ d - 1))) (kI (fun v M1 h => ?_))
  refine x_aload_n (dA D_L_law_19 9 rfl) rfl ?_
  refine x_aload_n (dA D_L_law_19 10 rfl) rfl ?_
  refine x_iload_n (dA D_L_law_19 11 rfl) rfl ?_
  refine x_iconst (dA D_L_law_19 12 rfl) ?_
  refine x_iadd (dA D_L_law_19 13 rfl) ?_
  refine x_scr (dA D_L_law_19 14 rfl) (by omega) (by omega) (by omega) ?_
  refine x_callV 11 [vI (gX G (i + 1).toNat)] [vI v] (dA D_L_law_19 15 rfl) cw_RL_143 rfl rfl (Nat.le_of_ble_eq_true rfl) (by decide) rfl hd1 (k := k) (n := n) (by omega) (by omega) h.1 h.2 (kI (fun v' M2 g => ?_))
  obtain ⟨rfl, g⟩ := g
  exact x_icmp_same (dA D_L_law_19 16 rfl) (by decide) (kk M2 g)
theorem law_c31 {i : Int} (hd : 61 ≤ d) (hL : gL G ≤ 4608) (hX : ∀ j : Nat, inR (gX G j)) (hi : 0 ≤ i ∧ i + 9 ≤ gL G) (hq : 0 ≤ q ∧ q ≤ 1000) (hI : INV q M) (kk : ∀ M', INV (q + 1) M' → X G Y_L_law d k n 1192 (lxs i) [] M' Q) : X G Y_L_law d (12 + k) (1204 + n) 1133 (lxs i) [] M Q := by
  have hd1 : 1 ≤ d := by omega
  refine x_aload_n (dA D_L_law_19 19 rfl) rfl ?_
  refine x_aload_n (dA D_L_law_19 20 rfl) rfl ?_
  refine x_iload_n (dA D_L_law_19 21 rfl) rfl ?_
  refine x_iconst (dA D_L_law_19 22 rfl) ?_
  refine x_iadd (dA D_L_law_19 23 rfl) ?_
  refine x_scr (dA D_L_law_19 24 rfl) (by omega) (by omega) (by omega) ?_
  refine x_callV 10 [vI (gX G (i + 1).toNat)] [] (dA D_L_law_19 25 rfl) cw_RL_144 rfl rfl (Nat.le_of_ble_eq_true rfl) (by decide) rfl hd1 (k := k) (n := n) (by omega) (by omega) (sO_0 hI.sh) (PR.c (P_back (hX _) hq hI (by omega : 60 ≤ d - 1))) (kI (fun v M1 h => ?_))
  refine x_aload_n (dA D_L_law_19 26 rfl) rfl ?_
  refine x_aload_n (dA D_L_law_19 27 rfl) rfl ?_
  refine x_iload_n (dA D_L_law_19 28 rfl) rfl ?_
  refine x_iconst (dA D_L_law_19 29 rfl) ?_
  refine x_iadd (dA D_L_law_19 30 rfl) ?_
  refine x_scr (dA D_L_law_19 31 rfl) (by omega) (by omega) (by omega) ?_
  refine x_callV 11 [vI (gX G (i + 1).toNat)] [vI v] (dA D_L_law_19 32 rfl) cw_RL_147 rfl rfl (Nat.le_of_ble_eq_true rfl) (by decide) rfl hd1 (k := k) (n := n) (by omega) (by omega) h.1 h.2 (kI (fun v' M2 g => ?_))
  obtain ⟨rfl, g⟩ := g
  exact x_icmp_same (dA D_L_law_19 33 rfl) (by decide) (kk M2 g)
theorem law_c32 {i : Int} (hd : 61 ≤ d) (hL : gL G ≤ 4608) (hX : ∀ j : Nat, inR (gX G j)) (hi : 0 ≤ i ∧ i + 9 ≤ gL G) (hq : 0 ≤ q ∧ q ≤ 1000) (hI : INV q M) (kk : ∀ M', INV (q + 1) M' → X G Y_L_law d k n 1192 (lxs i) [] M' Q) : X G Y_L_law d (12 + k) (1204 + n) 1156 (lxs i) [] M Q := by
  have hd1 : 1 ≤ d := by omega
  refine x_aload_n (dA D_L_law_19 36 rfl) rfl ?_
  refine x_aload_n (dA D_L_law_19 37 rfl) rfl ?_
  refine x_iload_n (dA D_L_law_19 38 rfl) rfl ?_
  refine x_iconst (dA D_L_law_19 39 rfl) ?_
  refine x_iadd (dA D_L_law_20 0 rfl) ?_
  refine x_scr (dA D_L_law_20 1 rfl) (by omega) (by omega) (by omega) ?_
  refine x_callV 10 [vI (gX G (i + 1).toNat)] [] (dA D_L_law_20 2 rfl) cw_RL_148 rfl rfl (Nat.le_of_ble_eq_true rfl) (by decide) rfl hd1 (k := k) (n := n) (by omega) (by omega) (sO_0 hI.sh) (PR.c (P_count (hX _) hI (by omega : 60 ≤ d - 1))) (kI (fun v M1 h => ?_))
  refine x_aload_n (dA D_L_law_20 3 rfl) rfl ?_
  refine x_aload_n (dA D_L_law_20 4 rfl) rfl ?_
  refine x_iload_n (dA D_L_law_20 5 rfl) rfl ?_
  refine x_iconst (dA D_L_law_20 6 rfl) ?_
  refine x_iadd (dA D_L_law_20 7 rfl) ?_
  refine x_scr (dA D_L_law_20 8 rfl) (by omega) (by omega) (by omega) ?_
  refine x_callV 11 [vI (gX G (i + 1).toNat)] [vI v] (dA D_L_law_20 9 rfl) cw_RL_151 rfl rfl (Nat.le_of_ble_eq_true rfl) (by decide) rfl hd1 (k := k) (n := n) (by omega) (by omega) h.1 h.2 (kI (fun v' M2 g => ?_))
  obtain ⟨rfl, g⟩ := g
  exact x_icmp_same (dA D_L_law_20 10 rfl) (by decide) (kk M2 g)
theorem law_c33 {i : Int} (hd : 61 ≤ d) (hL : gL G ≤ 4608) (hX : ∀ j : Nat, inR (gX G j)) (hi : 0 ≤ i ∧ i + 9 ≤ gL G) (hq : 0 ≤ q ∧ q ≤ 1000) (hI : INV q M) (kk : ∀ M', INV (q + 1) M' → X G Y_L_law d k n 1192 (lxs i) [] M' Q) : X G Y_L_law d (12 + k) (1204 + n) 1179 (lxs i) [] M Q := by
  have hd1 : 1 ≤ d := by omega
  refine x_aload_n (dA D_L_law_20 13 rfl) rfl ?_
  refine x_callV 10 [] [] (dA D_L_law_20 14 rfl) cw_RL_152 rfl rfl (Nat.le_of_ble_eq_true rfl) (by decide) rfl hd1 (k := k) (n := n) (by omega) (by omega) (sO_0 hI.sh) (PR.c (P_status hI (by omega : 60 ≤ d - 1))) (kI (fun v M1 h => ?_))
  refine x_aload_n (dA D_L_law_20 15 rfl) rfl ?_
  refine x_callV 11 [] [vI v] (dA D_L_law_20 16 rfl) cw_RL_155 rfl rfl (Nat.le_of_ble_eq_true rfl) (by decide) rfl hd1 (k := k) (n := n) (by omega) (by omega) h.1 h.2 (kI (fun v' M2 g => ?_))
  obtain ⟨rfl, g⟩ := g
  exact x_icmp_same (dA D_L_law_20 17 rfl) (by decide) (kk M2 g)
theorem INV.up (h : INV q M) : INV (q + 1) M := by
  obtain ⟨r, sm, s, tx, L, ri, si, hC, hM⟩ := h
  exact ⟨r, sm, s, tx, L, ri, si, hC.up (by omega), hM⟩
theorem law_turn {i : Int} (hd : 61 ≤ d) (hL : gL G ≤ 4608) (hX : ∀ j : Nat, inR (gX G j)) (hi : 0 ≤ i ∧ i + 9 ≤ gL G) (hq : 0 ≤ q ∧ q ≤ 1000) (hI : INV q M) (kk : ∀ M', INV (q + 1) M' → X G Y_L_law d k n 1192 (lxs i) [] M' Q) {v : Int} (v0 : 0 ≤ v) (v1 : v < 64) : X G Y_L_law d (12 + k) (1204 + n) 33 (lxs i) [vI v] M Q := by
  have hv : inR v := ⟨by omega, by omega⟩
  by_cases w : 33 < v
  · exact x_tblO (dA D_L_law_0 21 rfl) (tgt := 1192) (by decide) hv (Or.inr w) (X.wide (by omega) (by omega) (kk M hI.up))
  have w33 : v ≤ 33 := by omega
  clear w v1
  by_cases e0 : v = 0
  · subst e0; exact x_tblI (dA D_L_law_0 21 rfl) (off := 151) (tgt := 184) hv (by decide) (by decide) rfl (by decide) (law_c0 hd hL hX hi hq hI kk)
  have l1 : 1 ≤ v := by omega
  clear e0 v0
  by_cases e1 : v = 1
  · subst e1; exact x_tblI (dA D_L_law_0 21 rfl) (off := 194) (tgt := 227) hv (by decide) (by decide) rfl (by decide) (law_c1 hd hL hX hi hq hI kk)
  have l2 : 2 ≤ v := by omega
  clear e1 l1
  by_cases e2 : v = 2
  · subst e2; exact x_tblI (dA D_L_law_0 21 rfl) (off := 237) (tgt := 270) hv (by decide) (by decide) rfl (by decide) (law_c2 hd hL hX hi hq hI kk)
  have l3 : 3 ≤ v := by omega
  clear e2 l2
  by_cases e3 : v = 3
  · subst e3; exact x_tblI (dA D_L_law_0 21 rfl) (off := 280) (tgt := 313) hv (by decide) (by decide) rfl (by decide) (law_c3 hd hL hX hi hq hI kk)
  have l4 : 4 ≤ v := by omega
  clear e3 l3
  by_cases e4 : v = 4
  · subst e4; exact x_tblI (dA D_L_law_0 21 rfl) (off := 313) (tgt := 346) hv (by decide) (by decide) rfl (by decide) (law_c4 hd hL hX hi hq hI kk)
  have l5 : 5 ≤ v := by omega
  clear e4 l4
  by_cases e5 : v = 5
  · subst e5; exact x_tblI (dA D_L_law_0 21 rfl) (off := 376) (tgt := 409) hv (by decide) (by decide) rfl (by decide) (law_c5 hd hL hX hi hq hI kk)
  have l6 : 6 ≤ v := by omega
  clear e5 l5
  by_cases e6 : v = 6
  · subst e6; exact x_tblI (dA D_L_law_0 21 rfl) (off := 399) (tgt := 432) hv (by decide) (by decide) rfl (by decide) (law_c6 hd hL hX hi hq hI kk)
  have l7 : 7 ≤ v := by omega
  clear e6 l6
  by_cases e7 : v = 7
  · subst e7; exact x_tblI (dA D_L_law_0 21 rfl) (off := 412) (tgt := 445) hv (by decide) (by decide) rfl (by decide) (law_c7 hd hL hX hi hq hI kk)
  have l8 : 8 ≤ v := by omega
  clear e7 l7
  by_cases e8 : v = 8
  · subst e8; exact x_tblI (dA D_L_law_0 21 rfl) (off := 425) (tgt := 458) hv (by decide) (by decide) rfl (by decide) (law_c8 hd hL hX hi hq hI kk)
  have l9 : 9 ≤ v := by omega
  clear e8 l8
  by_cases e9 : v = 9
  · subst e9; exact x_tblI (dA D_L_law_0 21 rfl) (off := 438) (tgt := 471) hv (by decide) (by decide) rfl (by decide) (law_c9 hd hL hX hi hq hI kk)
  have l10 : 10 ≤ v := by omega
  clear e9 l9
  by_cases e10 : v = 10
  · subst e10; exact x_tblI (dA D_L_law_0 21 rfl) (off := 451) (tgt := 484) hv (by decide) (by decide) rfl (by decide) (law_c10 hd hL hX hi hq hI kk)
  have l11 : 11 ≤ v := by omega
  clear e10 l10
  by_cases e11 : v = 11
  · subst e11; exact x_tblI (dA D_L_law_0 21 rfl) (off := 474) (tgt := 507) hv (by decide) (by decide) rfl (by decide) (law_c11 hd hL hX hi hq hI kk)
  have l12 : 12 ≤ v := by omega
  clear e11 l11
  by_cases e12 : v = 12
  · subst e12; exact x_tblI (dA D_L_law_0 21 rfl) (off := 573) (tgt := 606) hv (by decide) (by decide) rfl (by decide) (law_c12 hd hL hX hi hq hI kk)
  have l13 : 13 ≤ v := by omega
  clear e12 l12
  by_cases e13 : v = 13
  · subst e13; exact x_tblI (dA D_L_law_0 21 rfl) (off := 596) (tgt := 629) hv (by decide) (by decide) rfl (by decide) (law_c13 hd hL hX hi hq hI kk)
  have l14 : 14 ≤ v := by omega
  clear e13 l13
  by_cases e14 : v = 14
  · subst e14; exact x_tblI (dA D_L_law_0 21 rfl) (off := 619) (tgt := 652) hv (by decide) (by decide) rfl (by decide) (law_c14 hd hL hX hi hq hI kk)
  have l15 : 15 ≤ v := by omega
  clear e14 l14
  by_cases e15 : v = 15
  · subst e15; exact x_tblI (dA D_L_law_0 21 rfl) (off := 632) (tgt := 665) hv (by decide) (by decide) rfl (by decide) (law_c15 hd hL hX hi hq hI kk)
  have l16 : 16 ≤ v := by omega
  clear e15 l15
  by_cases e16 : v = 16
  · subst e16; exact x_tblI (dA D_L_law_0 21 rfl) (off := 655) (tgt := 688) hv (by decide) (by decide) rfl (by decide) (law_c16 hd hL hX hi hq hI kk)
  have l17 : 17 ≤ v := by omega
  clear e16 l16
  by_cases e17 : v = 17
  · subst e17; exact x_tblI (dA D_L_law_0 21 rfl) (off := 688) (tgt := 721) hv (by decide) (by decide) rfl (by decide) (law_c17 hd hL hX hi hq hI kk)
  have l18 : 18 ≤ v := by omega
  clear e17 l17
  by_cases e18 : v = 18
  · subst e18; exact x_tblI (dA D_L_law_0 21 rfl) (off := 751) (tgt := 784) hv (by decide) (by decide) rfl (by decide) (law_c18 hd hL hX hi hq hI kk)
  have l19 : 19 ≤ v := by omega
  clear e18 l18
  by_cases e19 : v = 19
  · subst e19; exact x_tblI (dA D_L_law_0 21 rfl) (off := 774) (tgt := 807) hv (by decide) (by decide) rfl (by decide) (law_c19 hd hL hX hi hq hI kk)
  have l20 : 20 ≤ v := by omega
  clear e19 l19
  by_cases e20 : v = 20
  · subst e20; exact x_tblI (dA D_L_law_0 21 rfl) (off := 787) (tgt := 820) hv (by decide) (by decide) rfl (by decide) (law_c20 hd hL hX hi hq hI kk)
  have l21 : 21 ≤ v := by omega
  clear e20 l20
  by_cases e21 : v = 21
  · subst e21; exact x_tblI (dA D_L_law_0 21 rfl) (off := 800) (tgt := 833) hv (by decide) (by decide) rfl (by decide) (law_c21 hd hL hX hi hq hI kk)
  have l22 : 22 ≤ v := by omega
  clear e21 l21
  by_cases e22 : v = 22
  · subst e22; exact x_tblI (dA D_L_law_0 21 rfl) (off := 823) (tgt := 856) hv (by decide) (by decide) rfl (by decide) (law_c22 hd hL hX hi hq hI kk)
  have l23 : 23 ≤ v := by omega
  clear e22 l22
  by_cases e23 : v = 23
  · subst e23; exact x_tblI (dA D_L_law_0 21 rfl) (off := 846) (tgt := 879) hv (by decide) (by decide) rfl (by decide) (law_c23 hd hL hX hi hq hI kk)
  have l24 : 24 ≤ v := by omega
  clear e23 l23
  by_cases e24 : v = 24
  · subst e24; exact x_tblI (dA D_L_law_0 21 rfl) (off := 879) (tgt := 912) hv (by decide) (by decide) rfl (by decide) (law_c24 hd hL hX hi hq hI kk)
  have l25 : 25 ≤ v := by omega
  clear e24 l24
  by_cases e25 : v = 25
  · subst e25; exact x_tblI (dA D_L_law_0 21 rfl) (off := 902) (tgt := 935) hv (by decide) (by decide) rfl (by decide) (law_c25 hd hL hX hi hq hI kk)
  have l26 : 26 ≤ v := by omega
  clear e25 l25
  by_cases e26 : v = 26
  · subst e26; exact x_tblI (dA D_L_law_0 21 rfl) (off := 935) (tgt := 968) hv (by decide) (by decide) rfl (by decide) (law_c26 hd hL hX hi hq hI kk)
  have l27 : 27 ≤ v := by omega
  clear e26 l26
  by_cases e27 : v = 27
  · subst e27; exact x_tblI (dA D_L_law_0 21 rfl) (off := 958) (tgt := 991) hv (by decide) (by decide) rfl (by decide) (law_c27 hd hL hX hi hq hI kk)
  have l28 : 28 ≤ v := by omega
  clear e27 l27
  by_cases e28 : v = 28
  · subst e28; exact x_tblI (dA D_L_law_0 21 rfl) (off := 991) (tgt := 1024) hv (by decide) (by decide) rfl (by decide) (law_c28 hd hL hX hi hq hI kk)
  have l29 : 29 ≤ v := by omega
  clear e28 l28
  by_cases e29 : v = 29
  · subst e29; exact x_tblI (dA D_L_law_0 21 rfl) (off := 1024) (tgt := 1057) hv (by decide) (by decide) rfl (by decide) (law_c29 hd hL hX hi hq hI kk)
  have l30 : 30 ≤ v := by omega
  clear e29 l29
  by_cases e30 : v = 30
  · subst e30; exact x_tblI (dA D_L_law_0 21 rfl) (off := 1077) (tgt := 1110) hv (by decide) (by decide) rfl (by decide) (law_c30 hd hL hX hi hq hI kk)
  have l31 : 31 ≤ v := by omega
  clear e30 l30
  by_cases e31 : v = 31
  · subst e31; exact x_tblI (dA D_L_law_0 21 rfl) (off := 1100) (tgt := 1133) hv (by decide) (by decide) rfl (by decide) (law_c31 hd hL hX hi hq hI kk)
  have l32 : 32 ≤ v := by omega
  clear e31 l31
  by_cases e32 : v = 32
  · subst e32; exact x_tblI (dA D_L_law_0 21 rfl) (off := 1123) (tgt := 1156) hv (by decide) (by decide) rfl (by decide) (law_c32 hd hL hX hi hq hI kk)
  have l33 : 33 ≤ v := by omega
  clear e32 l32
  by_cases e33 : v = 33
  · subst e33; exact x_tblI (dA D_L_law_0 21 rfl) (off := 1146) (tgt := 1179) hv (by decide) (by decide) rfl (by decide) (law_c33 hd hL hX hi hq hI kk)
  have l34 : 34 ≤ v := by omega
  clear e33 l33
  omega
theorem law_loop (hd : 61 ≤ d) (hL : gL G ≤ 4608) (hX : ∀ j : Nat, inR (gX G j)) : ∀ (m : Nat) (q : Int) (M : MM), 0 ≤ q → q + m = 512 → INV q M → X G Y_L_law d (12 * m) (1204 * m) 18 (lxs (9 * q)) [] M (rI (fun v _ => v = 1)) := by
  intro m
  induction m with
  | zero =>
    intro q M q0 hm hI
    refine x_iload_n (dA D_L_law_0 10 rfl) rfl ?_
    refine x_aload_n (dA D_L_law_0 11 rfl) rfl ?_
    refine x_scrlen (dA D_L_law_0 12 rfl) ?_
    refine x_bipush (dA D_L_law_0 13 rfl) (by decide) (by decide) ?_
    refine x_isub (dA D_L_law_0 14 rfl) ?_
    refine x_icmp_gt (dA D_L_law_0 15 rfl) (tgt := 1198) (by decide) ⟨by omega, by omega⟩ ⟨by omega, by omega⟩ ⟨fun _ => ?_, fun w => absurd (by omega) w⟩
    refine x_iconst (dA D_L_law_20 22 rfl) ?_
    exact x_zreturn (dA D_L_law_20 23 rfl) rfl (Or.inr rfl) rfl
  | succ m ih =>
    intro q M q0 hm hI
    refine x_iload_n (dA D_L_law_0 10 rfl) rfl ?_
    refine x_aload_n (dA D_L_law_0 11 rfl) rfl ?_
    refine x_scrlen (dA D_L_law_0 12 rfl) ?_
    refine x_bipush (dA D_L_law_0 13 rfl) (by decide) (by decide) ?_
    refine x_isub (dA D_L_law_0 14 rfl) ?_
    refine x_icmp_gt (dA D_L_law_0 15 rfl) (tgt := 1198) (by decide) ⟨by omega, by omega⟩ ⟨by omega, by omega⟩ ⟨fun _ => ?_, fun w => ?_⟩
    · refine x_iconst (dA D_L_law_20 22 rfl) ?_
      exact x_zreturn (dA D_L_law_20 23 rfl) rfl (Or.inr rfl) rfl
    · refine x_aload_n (dA D_L_law_0 16 rfl) rfl ?_
      refine x_iload_n (dA D_L_law_0 17 rfl) rfl ?_
      refine x_scr (dA D_L_law_0 18 rfl) (by omega) (by omega) (by omega) ?_
      refine x_bipush (dA D_L_law_0 19 rfl) (by decide) (by decide) ?_
      refine x_iand (dA D_L_law_0 20 rfl) ?_
      have ek : 12 * (m + 1) = 12 + 12 * m := by omega
      have en : 1204 * (m + 1) = 1204 + 1204 * m := by omega
      rw [ek, en]
      refine law_turn hd hL hX ⟨by omega, by omega⟩ ⟨q0, by omega⟩ hI (fun M' hI' => ?_) (iAnd63 _).1 (iAnd63 _).2
      refine x_iinc (xs' := lxs (9 * q + 9)) (dA D_L_law_20 20 rfl) rfl (by decide) rfl ?_
      refine x_goto (dA D_L_law_20 21 rfl) (tgt := 18) (by decide) ?_
      rw [show 9 * q + 9 = 9 * (q + 1) by omega]
      exact ih (q + 1) M' (by omega) (by omega) hI'

/-- nothing yet -/
def M00 : MM := (0, fun _ => (0, 0), fun _ _ => 0)
theorem law_all (hd : 61 ≤ d) (hL : gL G ≤ 4608) (hX : ∀ j : Nat, inR (gX G j)) : X G Y_L_law d 6238 791904 0 [vA (-2), vU, vU, vU] [] M00 (rI (fun v _ => v = 1)) := by
  have hd1 : 1 ≤ d := by omega
  refine x_new (k := 6237) (n := 791888) (dA D_L_law_0 0 rfl) nw_RL_7 (by decide) ?_
  refine x_nmM (fun M1 e1 => ?_)
  refine x_dup (dA D_L_law_0 1 rfl) rfl ?_
  have z1 : MEM 0 M00 [(10, ((kN 10 : Nat) : Int), dvF 10)] M1 := (MEM.nil (M := M00) (Int.le_refl _)).al e1 rfl
  refine x_callI [] [vA 0] (dA D_L_law_0 2 rfl) cw_RL_9 rfl rfl (Nat.le_of_ble_eq_true rfl) hd1 (k := 6171) (n := 740263) (by decide) (by decide) (Int.le_refl 0) (Q' := rU (fun M' => ∃ f g k, TB3 f g k ∧ MEM 0 M00 (cl_X11 0 f g k) M')) (T_X11_init (by omega) z1 (fun M' f g k h3 hm => ⟨f, g, k, h3, hm⟩)) (kU (fun M2 h => ?_))
  obtain ⟨f, g, k', h3, m2⟩ := h
  refine x_astore_n (xs' := [vA (-2), vA 0, vU, vU]) (dA D_L_law_0 3 rfl) (by decide) rfl ?_
  have q2 : mN M2 = 67 := m2.1.2
  refine x_new (k := 6170) (n := 740209) (dA D_L_law_0 4 rfl) nw_RL_10 (by decide) ?_
  rw [q2]
  refine x_nmM (fun M3 e3 => ?_)
  have y3 := MEM.nil' (M := M2) (k := 67) (by decide) q2
  have z3 := y3.al e3 rfl
  refine x_dup (dA D_L_law_0 5 rfl) rfl ?_
  refine x_callI [] [vA 67] (dA D_L_law_0 6 rfl) cw_RL_12 rfl rfl (Nat.le_of_ble_eq_true rfl) hd1 (k := 6144) (n := 616448) (by decide) (by decide) (by decide) (Q' := rU (fun M' => MEM 67 M2 (cl_X12 67) M')) (T_X12_init (by omega) z3 (fun M' hm => hm)) (kU (fun M4 g4 => ?_))
  have m4 : MEM 0 M00 (cAll f g k') M4 := m2.app rfl g4 rfl
  have hI := INV_00 h3 m4
  refine x_astore_n (xs' := [vA (-2), vA 0, vA 67, vU]) (dA D_L_law_0 7 rfl) (by decide) rfl ?_
  refine x_iconst (dA D_L_law_0 8 rfl) ?_
  refine x_istore_n (xs' := lxs (9 * 0)) (dA D_L_law_0 9 rfl) (by decide) rfl ?_
  exact law_loop hd hL hX 512 0 M4 (Int.le_refl _) (by decide) hI
end LAW
