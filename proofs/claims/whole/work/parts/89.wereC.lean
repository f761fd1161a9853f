/-! ===== heads that were counted: the class ===== -/
def HrC (M : MM) (arr : Int) (g : Int → Int) : Prop := ∀ z : Int, 0 ≤ z → z < 6 → nrm (rd M arr) (z * 14) 14 ∧ vl (rd M arr) (z * 14) 14 = g z
theorem HrC.eq {M M' : MM} {a b : Int} {g : Int → Int} (h : HrC M a g) (e : ∀ j : Int, 0 ≤ j → j < 84 → rd M' b j = rd M a j) : HrC M' b g := fun z z0 z1 =>
  ⟨fun i i0 i1 => by rw [e _ (by omega) (by omega)]; exact (h z z0 z1).1 i i0 i1, by rw [vl_congr (g := rd M a) (b := z * 14) (fun i i0 i1 => e _ (by omega) (by omega))]; exact (h z z0 z1).2⟩
section WE
variable {G : GG} {d : Nat} {M : MM} {Q : PV → MM → Prop} {r : Int → Int} {sm : Int → LSm}
theorem ar14 (hS : Sh M) {a : Int} (ha : a = 54 ∨ a = 55 ∨ a = 56) : Ar M a 0 14 := by
  rcases ha with rfl | rfl | rfl
  · exact hS.Ar 54 14 rfl ⟨by decide, by decide, by decide, by decide⟩ (by decide)
  · exact hS.Ar 55 14 rfl ⟨by decide, by decide, by decide, by decide⟩ (by decide)
  · exact hS.Ar 56 14 rfl ⟨by decide, by decide, by decide, by decide⟩ (by decide)
theorem ar84 (hS : Sh M) {a z : Int} (ha : a = 52 ∨ a = 53) (z0 : 0 ≤ z) (z1 : z < 6) : Ar M a (z * 14) 14 := by
  rcases ha with rfl | rfl
  · exact hS.Ar 52 84 rfl ⟨by decide, by decide, by omega, by decide⟩ (by omega)
  · exact hS.Ar 53 84 rfl ⟨by decide, by decide, by omega, by decide⟩ (by omega)
theorem fl1 (hS : Sh M) {a len : Int} (hk : shp a = (21, len)) (h0 : 0 ≤ a ∧ a < 94 ∧ 0 ≤ len ∧ len < 2147483648) : fill1 M a 21 ∧ (mT M a).2 = len := by
  have A := hS.Ar a len (at' := 0) (n := len.toNat) hk ⟨h0.1, h0.2.1, by decide, h0.2.2.2⟩ (by omega)
  have h2 : mT M a = shp a := hS.2.1 a h0.1 h0.2.1
  have e2 : (mT M a).2 = len := by rw [h2, hk]
  exact ⟨⟨⟨A.1, A.2.1, A.2.2.1⟩, by omega, by omega⟩, e2⟩
theorem T_X1_begin {all : Int} (hS : Sh M) (hall : 0 ≤ all ∧ all ≤ 10) (hd : 2 ≤ d) (h : ∀ M', Fr (fun a _ => a = 52) M M' → Sh M' → HrC M' 52 (fun z => if z ≤ all ∧ all - z ≤ 5 then 1 else 0) → Q vU M') : C G Y_X1_begin d 0 0 [vA 51, vI all] M Q := by
  have F := fl1 hS (a := 52) (len := 84) rfl ⟨by decide, by decide, by decide, by decide⟩
  refine C_X1_begin (B_X1_begin_0 hd hS ⟨F.1, fun M2 e2 hS2 => ?_⟩)
  obtain ⟨len, el, c2, z2⟩ := e2
  have el' : len = 84 := by rw [← el]; exact F.2
  rw [el'] at c2 z2
  have key : ∀ m k : Nat, k + m = 6 → ∀ Mk, Fr (fun a _ => a = 52) M Mk → Sh Mk → (∀ j : Int, 0 ≤ j → j < 84 → rd Mk 52 j = if j % 14 = 0 ∧ j / 14 < k ∧ (j / 14 ≤ all ∧ all - j / 14 ≤ 5) then 1 else 0) → X G Y_X1_begin d 0 0 10 [vA 51, vI all, vI k] [] Mk Q := by
    intro m
    induction m with
    | zero =>
      intro k hk Mk fk hSk hj
      refine B_X1_begin_10 hd hSk ⟨⟨by omega, by omega⟩, fun _ => h Mk fk hSk (fun z z0 z1 => ?_), fun q => by omega⟩
      have e0 : ∀ i : Int, 0 ≤ i → i < 14 → i ≠ ((0 : Nat) : Int) → rd Mk 52 (z * 14 + i) = 0 := fun i i0 i1 i2 => by rw [hj _ (by omega) (by omega), if_neg (by omega)]
      have e1 : rd Mk 52 (z * 14 + ((0 : Nat) : Int)) = if z ≤ all ∧ all - z ≤ 5 then 1 else 0 := by
        rw [hj _ (by omega) (by omega), show (z * 14 + ((0 : Nat) : Int)) / 14 = z by omega]
        by_cases w : z ≤ all ∧ all - z ≤ 5
        · rw [if_pos ⟨by omega, by omega, w⟩, if_pos w]
        · rw [if_neg (fun y => w y.2.2), if_neg w]
      refine ⟨fun i i0 i1 => ?_, ?_⟩
      · by_cases w : i = 0
        · have := e1
          rw [show (z * 14 + ((0 : Nat) : Int)) = z * 14 + i by omega] at this
          rw [this]; split <;> exact ⟨by decide, by decide⟩
        · rw [e0 i i0 i1 (by omega)]; exact ⟨by decide, by decide⟩
      · rw [vl_one (k := 0) (by decide) e0, e1]
        show _ * Bp 0 = _
        rw [show Bp 0 = 1 from rfl, Int.mul_one]
    | succ m ih =>
      intro k hk Mk fk hSk hj
      refine B_X1_begin_10 hd hSk ⟨⟨by omega, by omega⟩, fun q => by omega, fun _ => ⟨⟨by omega, by omega⟩, ⟨by omega, by omega⟩, fun q => ?_, fun q => ⟨by omega, by omega, fun M6 e6 hS6 => ?_⟩⟩⟩
      · refine ih (k + 1) (by omega) Mk fk hSk (fun j j0 j1 => ?_)
        rw [hj j j0 j1]
        by_cases w : j % 14 = 0 ∧ j / 14 < k ∧ (j / 14 ≤ all ∧ all - j / 14 ≤ 5)
        · rw [if_pos w, if_pos ⟨w.1, by omega, w.2.2⟩]
        · rw [if_neg w, if_neg (fun y => w ⟨y.1, by
            have : j / 14 ≠ k := fun e => q (by rw [← e]; exact y.2.2)
            omega, y.2.2⟩)]
      · refine ih (k + 1) (by omega) M6 (by rw [e6]; exact fk.wr rfl) hS6 (fun j j0 j1 => ?_)
        rw [e6, rd_wr, hj j j0 j1]
        by_cases w : j = k * 14
        · rw [if_pos ⟨rfl, w⟩, if_pos ⟨by omega, by omega, by rw [show j / 14 = k by omega]; exact q⟩]
        · rw [if_neg (fun y => w y.2)]
          by_cases w2 : j % 14 = 0 ∧ j / 14 < k ∧ (j / 14 ≤ all ∧ all - j / 14 ≤ 5)
          · rw [if_pos w2, if_pos ⟨w2.1, by omega, w2.2.2⟩]
          · rw [if_neg w2, if_neg (fun y => w2 ⟨y.1, by omega, y.2.2⟩)]
  exact key 6 0 rfl M2 (Fr.ch c2 (fun _ _ _ => rfl)) hS2 (fun j j0 j1 => by rw [z2 j j0 j1, if_neg (by omega)])
theorem T_X1_addWays {z o all c0 c1 : Int} {g : Int → Int} (hS : Sh M) (hz : 0 ≤ z ∧ z < 6) (ho : 0 ≤ o ∧ o < 6) (hall : 0 ≤ all ∧ all ≤ 10) (hc0 : 0 ≤ c0 ∧ c0 ≤ 100) (hc1 : 0 ≤ c1 ∧ c1 ≤ 100) (h57 : ∀ k : Int, 0 ≤ k → k ≤ z → rd M 57 k = stv z c0 k) (h58 : ∀ k : Int, 0 ≤ k → k ≤ o → rd M 58 k = stv o c1 k) (hg : HrC M 53 g) (hB : ∀ a : Int, 0 ≤ a → a < 6 → 0 ≤ g a ∧ g a ≤ tnP 4) (hd : 2 ≤ d)
    (h : ∀ M', Fr (fun a _ => a = 54 ∨ a = 55) M M' → Sh M' → nrm (rd M' 54) 0 14 → vl (rd M' 54) 0 14 = sumTo (fun a => if 0 ≤ all - a ∧ all - a ≤ o then stv z c0 a * (stv o c1 (all - a) * g a) else 0) (z.toNat + 1) → Q vU M') : C G Y_X1_addWays d 0 0 [vA 51, vI z, vI o, vI all] M Q := by
  have F4 := fl1 hS (a := 54) (len := 14) rfl ⟨by decide, by decide, by decide, by decide⟩
  have st0 : ∀ k : Int, 0 ≤ k → k ≤ z → 0 ≤ stv z c0 k ∧ stv z c0 k ≤ 10000000000 := fun k k0 k1 => stv_ok hz.1 hz.2 hc0.1 (by omega) k0 (by omega)
  have st1 : ∀ k : Int, 0 ≤ k → k ≤ o → 0 ≤ stv o c1 k ∧ stv o c1 k ≤ 10000000000 := fun k k0 k1 => stv_ok ho.1 ho.2 hc1.1 (by omega) k0 (by omega)
  have su0 := stv_sum hz.1 hz.2 hc0.1 (show c0 < 101 by omega)
  have hT4 : (10000000000 : Int) * (10000000000 * tnP 4) < Bp 14 := by decide +kernel
  have hT4' : (10000000000 : Int) * tnP 4 < Bp 14 := by decide +kernel
  have t4 := tnP_pos 4
  generalize hF : (fun a => if 0 ≤ all - a ∧ all - a ≤ o then stv z c0 a * (stv o c1 (all - a) * g a) else 0) = F at *
  have Fb : ∀ a : Int, 0 ≤ a → a ≤ z → 0 ≤ F a ∧ F a ≤ stv z c0 a * (10000000000 * tnP 4) := fun a a0 a1 => by
    rw [← hF]
    dsimp only
    have s0 := st0 a a0 a1
    split
    · rename_i w
      have s1 := st1 _ w.1 w.2
      have ga := hB a a0 (by omega)
      have m1 := mul_le s1.1 s1.2 ga.1 ga.2
      have m2 := mul_le s0.1 (Int.le_refl _) m1.1 m1.2
      exact m2
    · exact ⟨Int.le_refl _, Int.mul_nonneg s0.1 (by omega)⟩
  have Fs : ∀ k : Nat, (k : Int) ≤ z + 1 → 0 ≤ sumTo F k ∧ sumTo F k ≤ sumTo (fun a => stv z c0 a) k * (10000000000 * tnP 4) := by
    intro k
    induction k with
    | zero => intro _; simp [sumTo]
    | succ k ih =>
      intro hk
      have := ih (by omega)
      have := Fb k (by omega) (by omega)
      rw [sumTo, sumTo, Int.add_mul]
      omega
  have Ss : ∀ k : Nat, (k : Int) ≤ z + 1 → 0 ≤ sumTo (fun a => stv z c0 a) k ∧ sumTo (fun a => stv z c0 a) k ≤ 10000000000 := fun k hk => by
    have m1 := sumTo_mono (f := fun a => stv z c0 a) (n := k) (m := z.toNat + 1) (by omega) (fun i i0 i1 => (st0 i i0 (by omega)).1)
    have m0 := sumTo_mono (f := fun a => stv z c0 a) (n := 0) (m := k) (by omega) (fun i i0 i1 => (st0 i i0 (by omega)).1)
    rw [su0] at m1
    exact ⟨m0, m1⟩
  refine C_X1_addWays (B_X1_addWays_0 hd hS ⟨F4.1, fun M2 e2 hS2 => ?_⟩)
  obtain ⟨len, el, c2, z2⟩ := e2
  have el' : len = 14 := by rw [← el]; exact F4.2
  rw [el'] at c2 z2
  have key : ∀ m k : Nat, (k : Int) + m = z + 1 → ∀ Mk, Fr (fun a _ => a = 54 ∨ a = 55) M Mk → Sh Mk → (∀ i : Int, 0 ≤ i → i < 14 → 0 ≤ rd Mk 54 i ∧ rd Mk 54 i ≤ 100000000 * sumTo (fun a => stv z c0 a) k) → vl (rd Mk 54) 0 14 = sumTo F k → X G Y_X1_addWays d 0 0 11 [vA 51, vI z, vI o, vI all, vI k, vU] [] Mk Q := by
    intro m
    induction m with
    | zero =>
      intro k hk Mk fk hSk lb va
      have fs := Fs k (by omega)
      have ss := Ss k (by omega)
      have mm := mul_le ss.1 ss.2 (show 0 ≤ 10000000000 * tnP 4 by omega) (Int.le_refl _)
      refine B_X1_addWays_11 hd hSk ⟨⟨by omega, by omega⟩, ⟨by omega, by omega⟩, fun _ => ⟨ar14 hSk (Or.inl rfl), fun i i0 i1 => by have := lb i i0 i1; omega, by rw [va]; omega, fun M6 e6 hS6 => ?_⟩, fun q => by omega⟩
      obtain ⟨c6, n6, v6⟩ := e6
      exact h M6 (fk.tr (Fr.ch c6 (fun _ _ _ => Or.inl rfl))) hS6 n6 (by rw [v6, va, show k = z.toNat + 1 by omega])
    | succ m ih =>
      intro k hk Mk fk hSk lb va
      have s0 := st0 k (by omega) (by omega)
      have ss := Ss k (by omega)
      have z53 : ∀ j, rd Mk 53 j = rd M 53 j := fun j => fk.2.2 _ _ (by omega)
      refine B_X1_addWays_11 hd hSk ⟨⟨by omega, by omega⟩, ⟨by omega, by omega⟩, fun q => by omega, fun _ v9 e9 => ⟨⟨by omega, by omega⟩, ⟨by omega, by omega⟩, fun q => ?_, fun q => ?_⟩⟩
      · have hFk : F k = 0 := by rw [← hF]; exact if_neg (by omega)
        refine ih (k + 1) (by omega) Mk fk hSk (fun i i0 i1 => ?_) (by rw [va, sumTo, hFk, Int.add_zero])
        have := lb i i0 i1
        rw [sumTo]; omega
      · have hw : 0 ≤ all - k ∧ all - k ≤ o := by omega
        have hFk : F k = stv z c0 k * (stv o c1 (all - k) * g k) := by rw [← hF]; exact if_pos hw
        have s1 := st1 _ hw.1 hw.2
        have F5 := fl1 hSk (a := 55) (len := 14) rfl ⟨by decide, by decide, by decide, by decide⟩
        refine ⟨F5.1, fun M22 e22 hS22 => ?_⟩
        obtain ⟨len2, el2, c22, z22⟩ := e22
        have el2' : len2 = 14 := by rw [← el2]; exact F5.2
        rw [el2'] at c22 z22
        have f22 : Fr (fun a _ => a = 54 ∨ a = 55) M M22 := fk.tr (Fr.ch c22 (fun _ _ _ => Or.inr rfl))
        have e58 : rd M22 58 v9 = stv o c1 (all - k) := by rw [f22.2.2 _ _ (by omega), e9]; exact h58 _ hw.1 hw.2
        have y53 : ∀ j, rd M22 53 j = rd M 53 j := fun j => f22.2.2 _ _ (by omega)
        have gk := hg k (by omega) (by omega)
        have gb := hB k (by omega) (by omega)
        refine ⟨by omega, by omega, ⟨by decide, by decide⟩, ar14 hS22 (Or.inr (Or.inl rfl)), ar84 hS22 (Or.inr rfl) (by omega) (by omega), by decide, fun M31 e31 hS31 => ?_⟩
        obtain ⟨c31, q31⟩ := e31
        rw [e58] at q31
        have r31 : ∀ i : Int, 0 ≤ i → i < 14 → rd M31 55 i = rd M 53 (k * 14 + i) * stv o c1 (all - k) := fun i i0 i1 => by rw [q31 i i0 i1, z22 i i0 i1, y53, Int.zero_add]
        have v31 : vl (rd M31 55) 0 14 = g k * stv o c1 (all - k) := by
          have := vl_lin (f := rd M31 55) (g := fun _ => 0) (h := rd M 53) (a := 0) (b := 0) (e := k * 14) (c := stv o c1 (all - k)) (n := 14) (fun i i0 i1 => by rw [Int.zero_add, r31 i i0 i1, Int.zero_add])
          rw [this, vl_zero (fun _ _ _ => rfl), Int.zero_add, gk.2]
        have mg := mul_le gb.1 gb.2 s1.1 s1.2
        refine ⟨ar14 hS31 (Or.inr (Or.inl rfl)), fun i i0 i1 => ?_, by rw [v31]; omega, fun M37 e37 hS37 => ?_⟩
        · rw [r31 i i0 i1]
          have := gk.1 i i0 i1
          have m2 := mul_le this.1 (show rd M 53 (k * 14 + i) ≤ 100000000 by omega) s1.1 s1.2
          omega
        obtain ⟨c37, n37, v37⟩ := e37
        have f37 : Fr (fun a _ => a = 54 ∨ a = 55) Mk M37 := ((Fr.ch c22 (fun _ _ _ => Or.inr rfl)).tr (Fr.ch c31 (fun _ _ _ => Or.inr rfl))).tr (Fr.ch c37 (fun _ _ _ => Or.inr rfl))
        have f37' := fk.tr f37
        have y54 : ∀ j, rd M37 54 j = rd Mk 54 j := fun j => by rw [c37.2.2 _ _ (by omega), c31.2.2 _ _ (by omega), c22.2.2 _ _ (by omega)]
        have e57 : rd M37 57 k = stv z c0 k := by rw [f37'.2.2 _ _ (by omega)]; exact h57 _ (by omega) (by omega)
        refine ⟨by omega, by omega, ar14 hS37 (Or.inl rfl), ar14 hS37 (Or.inr (Or.inl rfl)), by decide, fun M45 e45 hS45 => ?_⟩
        obtain ⟨c45, q45⟩ := e45
        rw [e57] at q45
        have r45 : ∀ i : Int, 0 ≤ i → i < 14 → rd M45 54 i = rd Mk 54 i + rd M37 55 (0 + i) * stv z c0 k := fun i i0 i1 => by rw [q45 i i0 i1, y54]
        refine ih (k + 1) (by omega) M45 (f37'.tr (Fr.ch c45 (fun _ _ _ => Or.inl rfl))) hS45 (fun i i0 i1 => ?_) ?_
        · rw [r45 i i0 i1, sumTo]
          have h1 := lb i i0 i1
          have h2 := n37 i i0 i1
          have h3 := mul_le h2.1 (show rd M37 55 (0 + i) ≤ 100000000 by omega) s0.1 (Int.le_refl (stv z c0 k))
          omega
        · have := vl_lin (f := rd M45 54) (g := rd Mk 54) (h := rd M37 55) (a := 0) (b := 0) (e := 0) (c := stv z c0 k) (n := 14) (fun i i0 i1 => by have := r45 i i0 i1; rw [Int.zero_add] at this ⊢; exact this)
          rw [this, va, v37, v31, sumTo, hFk]
          grind
  exact key (z.toNat + 1) 0 (by omega) M2 (Fr.ch c2 (fun _ _ _ => Or.inl rfl)) hS2 (fun i i0 i1 => by rw [z2 i i0 i1]; exact ⟨Int.le_refl 0, by show (0 : Int) ≤ 100000000 * 0; decide⟩) (by rw [vl_zero (fun i i0 i1 => by rw [Int.zero_add]; exact z2 i i0 i1)]; rfl)
def KCt (a j : Int) : Prop := a = 23 ∨ a = 24 ∨ (52 ≤ a ∧ a ≤ 58)
theorem HRh (h : HR M r) (hne : r 5 ≠ -1) {i : Int} (i0 : 0 ≤ i) (i1 : i ≤ 5) : rd M 11 i = hdN r i := by
  unfold hdN
  by_cases e : i = 0
  · rw [if_pos e, e]; exact h.2.2.2.2.2.2.2.2.2.2.1 hne
  · rw [if_neg e]
    have := (h.2.2.2.2.2.2.2.2.2.2.2 (i - 1) (by omega) (by omega)).2
    rw [show i - 1 + 1 = i by omega] at this
    exact this
theorem HRs (h : HR M r) {i : Int} (i0 : 0 ≤ i) (i1 : i < 5) : rd M 12 i = hdF r i := (h.2.2.2.2.2.2.2.2.2.2.2 i i0 i1).1
theorem T_X1_stepBack {i : Int} {m : Nat} (hS : Sh M) (hC : COK M r sm) (hne : r 5 ≠ -1) (hi : 0 ≤ i ∧ i + 1 + m = r 4) (hg : HrC M 53 (wyG r sm m (i + 1))) (hd : 6 ≤ d)
    (h : ∀ M', Fr KCt M M' → Sh M' → COK M' r sm → HrC M' 52 (wyG r sm (m + 1) i) → Q vU M') : C G Y_X1_stepBack d 0 0 [vA 51, vI i] M Q := by
  have hV := hC.2.1
  obtain ⟨hR, h4, hsr, hN⟩ := hd_ok hV
  have hN := hN hne
  have n5 := hV.2.1
  have hfi := hsr i hi.1 (by omega)
  have hns := pfx_NS hR (i := i.toNat) (by omega)
  have hpo := pfx_ok hR i.toNat (by omega)
  have hmn := mnO_pfx hV i.toNat (by omega)
  have ei : ((i.toNat : Nat) : Int) = i := by omega
  have hm4 : tnP m ≤ tnP 4 := by
    have : m = 0 ∨ m = 1 ∨ m = 2 ∨ m = 3 ∨ m = 4 := by omega
    rcases this with e | e | e | e | e <;> rw [e] <;> decide +kernel
  -- from the minutes on
  have k69 : ∀ M4, Sh M4 → COK M4 r sm → Fr KCt M M4 → (∀ j, rd M4 53 j = rd M 53 j) → (∀ j : Int, 0 ≤ j → j < 84 → rd M4 52 j = 0) → X G Y_X1_stepBack d 0 0 69 [vA 51, vI i, vI (lat (hdF r) i.toNat), vI (mnO r (pfx (hdF r) i.toNat)), vI 0, vU] [] M4 Q := by
    intro M4 hS4 hC4 f4 e53 z52
    have key : ∀ n k : Nat, k + n = 6 → ∀ Mk, Fr KCt M Mk → Sh Mk → COK Mk r sm → (∀ j, rd Mk 53 j = rd M 53 j) → (∀ z : Int, 0 ≤ z → z < k → nrm (rd Mk 52) (z * 14) 14 ∧ vl (rd Mk 52) (z * 14) 14 = wyG r sm (m + 1) i z) → (∀ j : Int, k * 14 ≤ j → j < 84 → rd Mk 52 j = 0) → X G Y_X1_stepBack d 0 0 69 [vA 51, vI i, vI (lat (hdF r) i.toNat), vI (mnO r (pfx (hdF r) i.toNat)), vI k, vU] [] Mk Q := by
      intro n
      induction n with
      | zero =>
        intro k hk Mk fk hSk hCk e53 hz _
        refine B_X1_stepBack_69 (r := r) (sm := sm) (by omega) hSk ⟨⟨by omega, by omega⟩, fun _ => h Mk fk hSk hCk (fun z z0 z1 => hz z z0 (by omega)), fun q => by omega⟩
      | succ n ih =>
        intro k hk Mk fk hSk hCk e53 hz hz0
        have hHi := hN i hi.1 (by omega)
        have hH1 := hN (i + 1) (by omega) (by omega)
        have e11 : rd Mk 11 i = hdN r i := HRh hCk.1 hne hi.1 (by omega)
        have e12 : rd Mk 12 i = hdF r i := HRs hCk.1 hi.1 (by omega)
        refine B_X1_stepBack_69 (r := r) (sm := sm) (by omega) hSk ?_
        rw [e11, e12]
        refine ⟨⟨by omega, by omega⟩, fun q => by omega, fun _ => ⟨hi.1, by omega, ⟨by omega, by omega⟩, ⟨by omega, by omega⟩, fun q v6 e6 => ?_, fun q => ?_⟩⟩
        · have hv6 : 0 ≤ v6 ∧ v6 < 6 := by omega
          have hk6 : 0 ≤ (k : Int) ∧ (k : Int) < 6 := by omega
          refine ⟨by omega, fun M8 e8 hS8 => ?_⟩
          obtain ⟨f8, c8⟩ := e8
          have F0 := fcts_ok (r := r) (so := 0) (s := hdF r i) (p := pfx (hdF r) i.toNat) (l := lat (hdF r) i.toNat) (z := k) (o := v6) hV (Or.inl rfl) ⟨hfi.1, by omega⟩ hns.1 hns.2.1 hk6 hv6
          have F1 := fcts_ok (r := r) (so := 1) (s := hdF r i) (p := pfx (hdF r) i.toNat) (l := lat (hdF r) i.toNat) (z := k) (o := v6) hV (Or.inr rfl) ⟨hfi.1, by omega⟩ hns.1 hns.2.1 hk6 hv6
          rw [hpo.2.2.1, ei] at F0 F1
          have C8 : COK M8 r sm := hCk.fr f8 (fun a j w => by unfold KC at w; omega)
          refine ⟨C8, by rw [c8]; exact F0, Or.inl rfl, fun r15 M14 e14 hS14 => ?_⟩
          obtain ⟨f14, e15⟩ := e14
          have C14 : COK M14 r sm := C8.fr f14 (fun a j w => by unfold KB at w; omega)
          have r15' : r15 = chn r sm 0 (hdF r i) (pfx (hdF r) i.toNat) (lat (hdF r) i.toNat) k v6 := by
            rw [e15, c8]; unfold chn; rw [hpo.2.2.1, ei]
          refine ⟨hS14.Ar 57 6 rfl ⟨by decide, by decide, by decide, by decide⟩ (by decide), hk6, by rw [r15']; exact chn_ok, fun M20 e20 hS20 => ?_⟩
          obtain ⟨c20, q20⟩ := e20
          have C20 : COK M20 r sm := C14.fr (K := fun a _ => a = 57) (Fr.ch c20 (fun _ _ _ => rfl)) (fun a j w => by omega)
          have e12' : rd M20 12 i = hdF r i := HRs C20.1 hi.1 (by omega)
          rw [e12']
          refine fun M23 e23 hS23 => ?_
          obtain ⟨f23, c23⟩ := e23
          have C23 : COK M23 r sm := C20.fr f23 (fun a j w => by unfold KC at w; omega)
          refine ⟨C23, by rw [c23]; exact F1, fun r29 M28 e28 hS28 => ?_⟩
          obtain ⟨f28, e29⟩ := e28
          have C28 : COK M28 r sm := C23.fr f28 (fun a j w => by unfold KB at w; omega)
          have r29' : r29 = chn r sm 1 (hdF r i) (pfx (hdF r) i.toNat) (lat (hdF r) i.toNat) k v6 := by
            rw [e29, c23]; unfold chn; rw [hpo.2.2.1, ei]
          refine ⟨hS28.Ar 58 6 rfl ⟨by decide, by decide, by decide, by decide⟩ (by decide), hv6, by rw [r29']; exact chn_ok, fun M34 e34 hS34 => ?_⟩
          obtain ⟨c34, q34⟩ := e34
          have C34 : COK M34 r sm := C28.fr (K := fun a _ => a = 58) (Fr.ch c34 (fun _ _ _ => rfl)) (fun a j w => by omega)
          have e11' : rd M34 11 (i + 1) = hdN r (i + 1) := HRh C34.1 hne (by omega) (by omega)
          rw [e11']
          have f34 : Fr (fun a _ => a = 23 ∨ a = 24 ∨ a = 57 ∨ a = 58) Mk M34 := by
            refine Fr.tr (M1 := M28) (Fr.tr (M1 := M20) (Fr.tr (M1 := M14) ((f8.mono ?_).tr (f14.mono ?_)) (Fr.ch c20 ?_)) ((f23.mono ?_).tr (f28.mono ?_))) (Fr.ch c34 ?_)
            · intro a j w; unfold KC at w; omega
            · intro a j w; unfold KB at w; omega
            · intro j _ _; omega
            · intro a j w; unfold KC at w; omega
            · intro a j w; unfold KB at w; omega
            · intro j _ _; omega
          have z34 : ∀ a j : Int, ¬ (a = 23 ∨ a = 24 ∨ a = 57 ∨ a = 58) → rd M34 a j = rd Mk a j := fun a j w => f34.2.2 _ _ w
          refine ⟨by omega, by omega, ?_⟩
          refine T_X1_addWays (c0 := r15) (c1 := r29) (g := wyG r sm m (i + 1)) hS34 hk6 hv6 hH1 (by rw [r15']; exact chn_ok) (by rw [r29']; exact chn_ok) (fun y y0 y1 => ?_) (fun y y0 y1 => q34 y y0 y1) ?_ (fun a a0 a1 => by have := wyG_ok (r := r) (sm := sm) m (i + 1) a0 a1; omega) (by omega) (fun M39 f39 hS39 n39 v39 => ?_)
          · rw [c34.2.2 _ _ (by omega), f28.2.2 _ _ (by unfold KB; omega), f23.2.2 _ _ (by unfold KC; omega)]; exact q20 y y0 y1
          · exact hg.eq (fun j j0 j1 => by rw [z34 _ _ (by omega)]; exact e53 j)
          · show Sh M39 ∧ _
            have z39 : ∀ a j : Int, ¬ (a = 54 ∨ a = 55) → rd M39 a j = rd M34 a j := fun a j w => f39.2.2 _ _ w
            refine ⟨hS39, sO_54 hS39, sO_52 hS39, by omega, by rw [sL_54 hS39]; decide, by rw [sL_52 hS39]; omega, fun M40 e40 => ?_⟩
            have c40 : Ch M39 M40 52 (k * 14) 14 := by
              rw [e40]
              refine ⟨rfl, fun _ => rfl, fun b j w => ?_⟩
              rw [rd_cp, if_neg (by omega)]
            have r40 : ∀ y : Int, 0 ≤ y → y < 14 → rd M40 52 (k * 14 + y) = rd M39 54 (0 + y) := fun y y0 y1 => by
              rw [e40, rd_cp, if_pos ⟨rfl, by omega, by omega⟩]; congr 1; omega
            have hS40 : Sh M40 := hS39.ch c40 (by rw [(sO_52 hS39).2.2]; decide)
            have f40 : Fr (fun a _ => a = 23 ∨ a = 24 ∨ (52 ≤ a ∧ a ≤ 58 ∧ a ≠ 53)) Mk M40 := ((f34.mono (fun a j w => by omega)).tr (f39.mono (fun a j w => by omega))).tr (Fr.ch c40 (fun j _ _ => by omega))
            have z40 : ∀ j : Int, ¬ (k * 14 ≤ j ∧ j < k * 14 + 14) → rd M40 52 j = rd Mk 52 j := fun j w => by rw [c40.2.2 _ _ (by omega), z39 _ _ (by omega), z34 _ _ (by omega)]
            refine ⟨hS40, ?_⟩
            refine ih (k + 1) (by omega) M40 (fk.tr (f40.mono (fun a j w => by unfold KCt; omega))) hS40 (hCk.fr f40 (fun a j w => by omega)) (fun j => by rw [f40.2.2 _ _ (by omega)]; exact e53 j) (fun z z0 z1 => ?_) (fun j j0 j1 => by rw [z40 j (by omega)]; exact hz0 j (by omega) j1)
            by_cases w : z = k
            · rw [w]
              refine ⟨fun y y0 y1 => by rw [r40 y y0 y1]; exact n39 y y0 y1, ?_⟩
              rw [vl_congr r40, v39]
              unfold wyG
              rw [if_pos q, bwG, ← e6, ← r15', ← r29']
              refine sumTo_congr (fun a a0 a1 => ?_)
              by_cases w2 : 0 ≤ hdN r (i + 1) - a ∧ hdN r (i + 1) - a ≤ v6
              · rw [if_pos w2, if_pos w2, if_pos ⟨by omega, by omega⟩]
              · rw [if_neg w2, if_neg w2]
            · have := hz z z0 (by omega)
              exact ⟨fun y y0 y1 => by rw [z40 _ (by omega)]; exact this.1 y y0 y1, by rw [vl_congr (g := rd Mk 52) (b := z * 14) (fun y y0 y1 => z40 _ (by omega))]; exact this.2⟩
        · refine ih (k + 1) (by omega) Mk fk hSk hCk e53 (fun z z0 z1 => ?_) (fun j j0 j1 => hz0 j (by omega) j1)
          by_cases w : z = k
          · rw [w]
            have e0 : ∀ y : Int, 0 ≤ y → y < 14 → rd Mk 52 (k * 14 + y) = 0 := fun y y0 y1 => hz0 _ (by omega) (by omega)
            refine ⟨nrm0 e0, ?_⟩
            rw [vl_zero e0]
            unfold wyG
            rw [if_neg q]
          · exact hz z z0 (by omega)
    exact key 6 0 rfl M4 f4 hS4 hC4 e53 (fun z z0 z1 => by omega) (fun j j0 j1 => z52 j (by omega) j1)
  -- the minutes
  have k25 : ∀ n k : Nat, (k : Int) + n = i → X G Y_X1_stepBack d 0 0 25 [vA 51, vI i, vI (lat (hdF r) i.toNat), vI (sumTo (fun j => r (10 + 3 * hdF r j)) k), vI k, vU] [] M Q := by
    intro n
    induction n with
    | zero =>
      intro k hk
      have F2 := fl1 hS (a := 52) (len := 84) rfl ⟨by decide, by decide, by decide, by decide⟩
      refine B_X1_stepBack_25 (by omega) hS ⟨⟨by omega, by omega⟩, ⟨by omega, by omega⟩, fun _ => ⟨F2.1, fun M4 e4 hS4 => ?_⟩, fun q => by omega⟩
      obtain ⟨len, el, c4, z4⟩ := e4
      have el' : len = 84 := by rw [← el]; exact F2.2
      rw [el'] at c4 z4
      have := k69 M4 hS4 (hC.fr (K := fun a _ => a = 52) (Fr.ch c4 (fun _ _ _ => rfl)) (fun a j w => by omega)) (Fr.ch c4 (fun j _ _ => by unfold KCt; omega)) (fun j => c4.2.2 _ _ (by omega)) z4
      rw [hmn, show i.toNat = k by omega] at this
      rw [show lat (hdF r) i.toNat = lat (hdF r) k by rw [show i.toNat = k by omega]]
      exact this
    | succ n ih =>
      intro k hk
      have e12 : rd M 12 k = hdF r k := HRs hC.1 (by omega) (by omega)
      have hk' := hsr k (by omega) (by omega)
      have e2 : rd M 2 (hdF r k) = r (10 + 3 * hdF r k) := (hC.1.2.1 _ hk'.1 (by omega)).1
      refine B_X1_stepBack_25 (by omega) hS ?_
      rw [e12, e2]
      refine ⟨⟨by omega, by omega⟩, ⟨by omega, by omega⟩, fun q => by omega, fun _ => ⟨by omega, by omega, hk'.1, by omega, fun v11 e11 => ?_⟩⟩
      have := ih (k + 1) (by omega)
      rw [sumTo, ← e11] at this
      exact this
  refine C_X1_stepBack (B_X1_stepBack_0 (by omega) hS ⟨⟨by omega, by omega⟩, fun q => ⟨by omega, by omega, fun v4 e4 => ?_⟩, fun q => ?_⟩)
  · have e12 : rd M 12 (i - 1) = hdF r (i - 1) := HRs hC.1 (by omega) (by omega)
    have el : v4 = lat (hdF r) i.toNat := by
      rw [e4, e12]; unfold lat; rw [if_neg (by omega), ei]
    rw [el]
    exact k25 i.toNat 0 (by omega)
  · have el : lat (hdF r) i.toNat = -1 := by unfold lat; rw [if_pos (by omega)]
    have := k25 i.toNat 0 (by omega)
    rw [el] at this
    exact this
theorem T_X1_millionths {P T : Int} (hS : Sh M) (nP : nrm (rd M 55) 0 14) (eP : vl (rd M 55) 0 14 = P) (nT : nrm (rd M 56) 0 14) (eT : vl (rd M 56) 0 14 = T) (hT : 0 < T ∧ T ≤ 6 * tnP 5) (hP : P ≤ T) (hd : 2 ≤ d)
    (h : ∀ M', Fr (fun a _ => a = 55) M M' → Sh M' → Q (vI (P * 1000000 / T)) M') : C G Y_X1_millionths d 0 0 [vA 51] M Q := by
  have P0 := vl_lt nP
  rw [eP] at P0
  have big : (60 : Int) * tnP 5 < Bp 14 := by decide +kernel
  refine C_X1_millionths (B_X1_millionths_0 (by omega) hS ?_)
  have key : ∀ n f : Nat, f + n = 7 → ∀ (Mk : MM) (N R : Int), Fr (fun a _ => a = 55) M Mk → Sh Mk → nrm (rd Mk 55) 0 14 → vl (rd Mk 55) 0 14 = R → R < 10 * T → P * 10 ^ f = 10 * (N * T) + R → X G Y_X1_millionths d 0 0 4 [vA 51, vI N, vI f, vU, vU] [] Mk Q := by
    intro n
    induction n with
    | zero =>
      intro f hf Mk N R fk hSk nk ek hR he
      refine B_X1_millionths_4 (by omega) hSk ⟨⟨by omega, by omega⟩, fun _ => ?_, fun q => by omega⟩
      have R0 := vl_lt nk
      rw [ek] at R0
      have hf7 : f = 7 := by omega
      subst hf7
      have e7 : (10 : Int) ^ 7 = 10000000 := by decide
      rw [e7] at he
      have hN : P * 1000000 / T = N := by
        refine Int.le_antisymm ?_ ?_
        · refine Int.le_of_lt_add_one (Int.ediv_lt_of_lt_mul hT.1 ?_)
          rw [Int.add_mul, Int.one_mul]; omega
        · exact Int.le_ediv_of_mul_le hT.1 (by omega)
      rw [← hN]
      exact h Mk fk hSk
    | succ n ih =>
      intro f hf Mk N R fk hSk nk ek hR he
      refine B_X1_millionths_4 (by omega) hSk ⟨⟨by omega, by omega⟩, fun q => by omega, fun _ => ?_⟩
      -- times ten
      have tens : ∀ (Ma : MM) (t R' : Int), Fr (fun a _ => a = 55) M Ma → Sh Ma → nrm (rd Ma 55) 0 14 → vl (rd Ma 55) 0 14 = R' → R' = R - t * T → R' < T → ∀ v2, v2 = N * 10 + t → X G Y_X1_millionths d 0 0 69 [vA 51, vI v2, vI f, vI t, vI 0] [] Ma Q := by
        intro Ma t R' fa hSa na ea er hr v2 e2
        have ra := vl_lt na
        rw [ea] at ra
        have loop : ∀ m2 k : Nat, k + m2 = 14 → ∀ Mb, Fr (fun a _ => a = 55) M Mb → Sh Mb → (∀ i : Int, 0 ≤ i → i < 14 → rd Mb 55 i = rd Ma 55 i * (if i < k then 10 else 1)) → X G Y_X1_millionths d 0 0 69 [vA 51, vI v2, vI f, vI t, vI k] [] Mb Q := by
          intro m2
          induction m2 with
          | zero =>
            intro k hk Mb fb hSb hb
            have hb' : ∀ i : Int, 0 ≤ i → i < 14 → rd Mb 55 i = rd Ma 55 i * 10 := fun i i0 i1 => by rw [hb i i0 i1, if_pos (by omega)]
            have hv : vl (rd Mb 55) 0 14 = R' * 10 := by
              have := vl_lin (f := rd Mb 55) (g := fun _ => 0) (h := rd Ma 55) (a := 0) (b := 0) (e := 0) (c := 10) (n := 14) (fun i i0 i1 => by rw [Int.zero_add, hb' i i0 i1, Int.zero_add])
              rw [this, vl_zero (fun _ _ _ => rfl), Int.zero_add, ea]
            refine B_X1_millionths_69 (by omega) hSb ⟨⟨by omega, by omega⟩, fun _ => ⟨ar14 hSb (Or.inr (Or.inl rfl)), fun i i0 i1 => ?_, by rw [hv]; omega, fun M5 e5 hS5 => ?_⟩, fun q => by omega⟩
            · rw [hb' i i0 i1]
              have := na i i0 i1
              rw [Int.zero_add] at this
              omega
            · obtain ⟨c5, n5, v5⟩ := e5
              have := ih (f + 1) (by omega) M5 v2 (R' * 10) (fb.tr (Fr.ch c5 (fun _ _ _ => rfl))) hS5 n5 (by rw [v5, hv]) (by omega) (by
                rw [Int.pow_succ, ← Int.mul_assoc, he, er, e2]; grind)
              exact this
          | succ m2 ihm =>
            intro k hk Mb fb hSb hb
            refine B_X1_millionths_69 (by omega) hSb ⟨⟨by omega, by omega⟩, fun q => by omega, fun _ => ⟨by omega, by omega, fun M10 e10 hS10 => ?_⟩⟩
            refine ihm (k + 1) (by omega) M10 (by rw [e10]; exact fb.wr rfl) hS10 (fun i i0 i1 => ?_)
            rw [e10, rd_wr]
            by_cases w : i = k
            · rw [if_pos ⟨rfl, w⟩, hb k (by omega) (by omega), if_neg (by omega), if_pos (by omega), Int.mul_one, w]
            · rw [if_neg (fun y => w y.2), hb i i0 i1]
              by_cases w2 : i < k
              · rw [if_pos w2, if_pos (by omega)]
              · rw [if_neg w2, if_neg (by omega)]
        exact loop 14 0 rfl Ma fa hSa (fun i i0 i1 => by rw [if_neg (by omega), Int.mul_one])
      have sub : ∀ m3 t : Nat, t + m3 = 9 → ∀ Ma, Fr (fun a _ => a = 55) M Ma → Sh Ma → nrm (rd Ma 55) 0 14 → vl (rd Ma 55) 0 14 = R - t * T → X G Y_X1_millionths d 0 0 15 [vA 51, vI N, vI f, vI t, vI t] [] Ma Q := by
        intro m3
        induction m3 with
        | zero =>
          intro t ht Ma fa hSa na ea
          refine B_X1_millionths_15 (by omega) hSa ⟨⟨by omega, by omega⟩, fun _ v2 e2 => tens Ma t (R - t * T) fa hSa na ea rfl ?_ v2 e2, fun q => by omega⟩
          have : (t : Int) = 9 := by omega
          rw [this]; omega
        | succ m3 ihs =>
          intro t ht Ma fa hSa na ea
          have e56 : rd Ma 56 = rd M 56 := funext fun j => fa.2.2 _ _ (by show ¬ ((56 : Int) = 55); decide)
          have A5 := ar14 hSa (a := 55) (Or.inr (Or.inl rfl))
          have A6 := ar14 hSa (a := 56) (Or.inr (Or.inr rfl))
          have nT' : nrm (rd Ma 56) 0 14 := by rw [e56]; exact nT
          have eT' : vl (rd Ma 56) 0 14 = T := by rw [e56]; exact eT
          refine B_X1_millionths_15 hd hSa ⟨⟨by omega, by omega⟩, fun q => by omega, fun _ => ⟨⟨by decide, by decide⟩, A5, A6, na, nT', cmpI_R, ?_⟩⟩
          show ((cmpI (vl (rd Ma 55) 0 14) (vl (rd Ma 56) 0 14)) < 0 → _) ∧ (0 ≤ (cmpI (vl (rd Ma 55) 0 14) (vl (rd Ma 56) 0 14)) → _)
          rw [eT', ea]
          have sgn : 0 ≤ cmpI (R - t * T) T ↔ T ≤ R - t * T := by
            unfold cmpI
            split
            · omega
            · split <;> omega
          refine ⟨fun q v9 e9 => tens Ma t (R - t * T) fa hSa na ea rfl (by have := sgn; omega) v9 e9, fun q => ⟨A5, A6, by decide, na, nT', sgn.mp q, fun M16 e16 hS16 => ?_⟩⟩
          obtain ⟨c16, n16, v16⟩ := e16
          exact ihs (t + 1) (by omega) M16 (fa.tr (Fr.ch c16 (fun _ _ _ => rfl))) hS16 n16 (by rw [v16]; push_cast; rw [Int.add_mul, Int.one_mul]; omega)
      exact sub 9 0 rfl Mk fk hSk nk (by rw [ek]; simp)
  exact key 7 0 rfl M 0 P Fr.rf hS nP eP (by omega) (by simp)
theorem T_X1_likely {many : Int} (hS : Sh M) (hC : COK M r sm) (hne : r 5 ≠ -1) (hm : 0 ≤ many ∧ many < 6) (hd : 8 ≤ d) (h : ∀ M', Fr KCt M M' → Sh M' → Q (vI (weV r sm many)) M') : C G Y_X1_likely d 0 0 [vA 51, vI many] M Q := by
  have hV := hC.2.1
  obtain ⟨hR, h4, hsr, hN⟩ := hd_ok hV
  have hN := hN hne
  have hwT := wyT_ok (sm := sm) hV
  have t5 : (6 : Int) * tnP 5 < Bp 14 := by decide +kernel
  have e16 : rd M 1 16 = r 4 := hC.1.2.2.2.2.2.2.2.2.1
  have e11 : rd M 11 (r 4) = hdN r (r 4) := HRh hC.1 hne h4.1 h4.2
  have hH4 := hN (r 4) h4.1 (Int.le_refl _)
  refine C_X1_likely (B_X1_likely_0 (by omega) hS ?_)
  rw [e16, e11]
  refine ⟨h4.1, by omega, ?_⟩
  refine T_X1_begin hS hH4 (by omega) (fun M3 f3 hS3 g3 => ?_)
  show Sh M3 ∧ _
  have C3 : COK M3 r sm := hC.fr f3 (fun a j w => by omega)
  have e16' : rd M3 1 16 = r 4 := C3.1.2.2.2.2.2.2.2.2.1
  rw [e16']
  refine ⟨hS3, fun v4 e4 => ?_⟩
  rw [e4]
  have fin : ∀ Mk, Fr KCt M Mk → Sh Mk → HrC Mk 52 (wyG r sm (r 4).toNat 0) → X G Y_X1_likely d 0 0 72 [vA 51, vI many, vI 0] [] Mk Q → True := fun _ _ _ _ _ => trivial
  -- the sum of all ways
  have k72 : ∀ n k : Nat, k + n = 6 → ∀ Mk, Fr KCt M Mk → Sh Mk → HrC Mk 52 (wyG r sm (r 4).toNat 0) → (∀ i : Int, 0 ≤ i → i < 14 → 0 ≤ rd Mk 56 i ∧ rd Mk 56 i ≤ 100000000 * k) → vl (rd Mk 56) 0 14 = sumTo (fun z => wyG r sm (r 4).toNat 0 z) k → X G Y_X1_likely d 0 0 72 [vA 51, vI many, vI k] [] Mk Q := by
    intro n
    induction n with
    | zero =>
      intro k hk Mk fk hSk gk lb va
      have k6 : k = 6 := by omega
      subst k6
      have va' : vl (rd Mk 56) 0 14 = wyT r sm := va
      refine B_X1_likely_72 (by omega) hSk ⟨⟨by omega, by omega⟩, fun _ => ⟨ar14 hSk (Or.inr (Or.inr rfl)), fun i i0 i1 => by have := lb i i0 i1; omega, by rw [va']; omega, fun M5 e5 hS5 => ?_⟩, fun q => by omega⟩
      obtain ⟨c5, n5, v5⟩ := e5
      have z5 : ∀ a j : Int, a ≠ 56 → rd M5 a j = rd Mk a j := fun a j w => c5.2.2 _ _ (fun y => w y.1)
      refine ⟨sO_52 hS5, sO_55 hS5, by omega, by rw [sL_52 hS5]; omega, by rw [sL_55 hS5]; decide, fun M8 e8 => ?_⟩
      have c8 : Ch M5 M8 55 0 14 := by
        rw [e8]
        refine ⟨rfl, fun _ => rfl, fun b j w => ?_⟩
        rw [rd_cp, if_neg (by omega)]
      have r8 : ∀ y : Int, 0 ≤ y → y < 14 → rd M8 55 (0 + y) = rd Mk 52 (many * 14 + y) := fun y y0 y1 => by
        rw [e8, rd_cp, if_pos ⟨rfl, by omega, by omega⟩, z5 _ _ (by decide)]; congr 1; omega
      have hS8 : Sh M8 := hS5.ch c8 (by rw [(sO_55 hS5).2.2]; decide)
      have F4 := fl1 hS8 (a := 54) (len := 14) rfl ⟨by decide, by decide, by decide, by decide⟩
      refine ⟨hS8, F4.1, fun M15 e15 hS15 => ?_⟩
      obtain ⟨len, el, c15, z15⟩ := e15
      have el' : len = 14 := by rw [← el]; exact F4.2
      rw [el'] at c15 z15
      have e56 : rd M15 56 = rd M5 56 := funext fun j => by rw [c15.2.2 _ _ (by omega), c8.2.2 _ _ (by omega)]
      have e55 : ∀ j, rd M15 55 j = rd M8 55 j := fun j => c15.2.2 _ _ (by omega)
      have n54 : nrm (rd M15 54) 0 14 := nrm0 (fun i i0 i1 => by rw [Int.zero_add]; exact z15 i i0 i1)
      have v54 : vl (rd M15 54) 0 14 = 0 := vl_zero (fun i i0 i1 => by rw [Int.zero_add]; exact z15 i i0 i1)
      have n56 : nrm (rd M15 56) 0 14 := by rw [e56]; exact n5
      have v56 : vl (rd M15 56) 0 14 = wyT r sm := by rw [e56, v5, va']
      have gm := gk many hm.1 hm.2
      have n55 : nrm (rd M15 55) 0 14 := fun i i0 i1 => by rw [e55, r8 i i0 i1]; exact gm.1 i i0 i1
      have v55 : vl (rd M15 55) 0 14 = wyG r sm (r 4).toNat 0 many := by rw [vl_congr (g := rd Mk 52) (b := many * 14) (fun i i0 i1 => by rw [e55]; exact r8 i i0 i1)]; exact gm.2
      have f15 : Fr KCt M M15 := ((fk.tr (Fr.ch c5 (fun j _ _ => by unfold KCt; omega))).tr (Fr.ch c8 (fun j _ _ => by unfold KCt; omega))).tr (Fr.ch c15 (fun j _ _ => by unfold KCt; omega))
      refine ⟨⟨by decide, by decide⟩, ar14 hS15 (Or.inr (Or.inr rfl)), ar14 hS15 (Or.inl rfl), n56, n54, cmpI_R, ?_⟩
      show ((cmpI (vl (rd M15 56) 0 14) (vl (rd M15 54) 0 14)) ≠ 0 → _) ∧ ((cmpI (vl (rd M15 56) 0 14) (vl (rd M15 54) 0 14)) = 0 → _)
      rw [v56, v54]
      have sg : cmpI (wyT r sm) 0 = 0 ↔ wyT r sm = 0 := by
        unfold cmpI
        split
        · omega
        · split <;> omega
      refine ⟨fun q => ?_, fun q => ?_⟩
      · have hne' : wyT r sm ≠ 0 := fun y => q (sg.mpr y)
        refine T_X1_millionths hS15 n55 v55 n56 v56 ⟨by omega, hwT.2.1⟩ (hwT.2.2 many hm.1 hm.2) (by omega) (fun M24 f24 hS24 => ?_)
        show Sh M24 ∧ _
        have := h M24 (f15.tr (f24.mono (fun a j w => by unfold KCt; omega))) hS24
        unfold weV at this
        rw [if_neg hne'] at this
        exact ⟨hS24, this⟩
      · have := h M15 f15 hS15
        unfold weV at this
        rw [if_pos (sg.mp q)] at this
        exact this
    | succ n ih =>
      intro k hk Mk fk hSk gk lb va
      have gkk := gk k (by omega) (by omega)
      refine B_X1_likely_72 (by omega) hSk ⟨⟨by omega, by omega⟩, fun q => by omega, fun _ => ⟨⟨by decide, by decide⟩, ar14 hSk (Or.inr (Or.inr rfl)), ar84 hSk (Or.inl rfl) (by omega) (by omega), by decide, fun M30 e30 hS30 => ?_⟩⟩
      obtain ⟨c30, q30⟩ := e30
      have z30 : ∀ j, rd M30 52 j = rd Mk 52 j := fun j => c30.2.2 _ _ (by omega)
      refine ih (k + 1) (by omega) M30 (fk.tr (Fr.ch c30 (fun j _ _ => by unfold KCt; omega))) hS30 (gk.eq (fun j _ _ => z30 j)) (fun i i0 i1 => ?_) ?_
      · rw [q30 i i0 i1]
        have := lb i i0 i1
        have := gkk.1 i i0 i1
        push_cast
        omega
      · have := vl_lin (f := rd M30 56) (g := rd Mk 56) (h := rd Mk 52) (a := 0) (b := 0) (e := k * 14) (c := 1) (n := 14) (fun i i0 i1 => by rw [Int.zero_add]; exact q30 i i0 i1)
        rw [this, va, gkk.2, Int.mul_one, sumTo]
  -- backwards
  have k29 : ∀ n m : Nat, (n : Int) + m = r 4 → ∀ Mk, Fr KCt M Mk → Sh Mk → COK Mk r sm → HrC Mk 52 (wyG r sm m n) → X G Y_X1_likely d 0 0 29 [vA 51, vI many, vI ((n : Int) - 1)] [] Mk Q := by
    intro n
    induction n with
    | zero =>
      intro m hm' Mk fk hSk hCk gk
      have F6 := fl1 hSk (a := 56) (len := 14) rfl ⟨by decide, by decide, by decide, by decide⟩
      refine B_X1_likely_29 (by omega) hSk ⟨⟨by omega, by omega⟩, fun _ => ⟨F6.1, fun M3 e3 hS3 => ?_⟩, fun q => by omega⟩
      obtain ⟨len, el, c3, z3⟩ := e3
      have el' : len = 14 := by rw [← el]; exact F6.2
      rw [el'] at c3 z3
      have em : m = (r 4).toNat := by omega
      rw [em] at gk
      exact k72 6 0 rfl M3 (fk.tr (Fr.ch c3 (fun j _ _ => by unfold KCt; omega))) hS3 (gk.eq (fun j _ _ => c3.2.2 _ _ (by omega))) (fun i i0 i1 => by rw [z3 i i0 i1]; exact ⟨Int.le_refl 0, by decide⟩) (by rw [vl_zero (fun i i0 i1 => by rw [Int.zero_add]; exact z3 i i0 i1)]; rfl)
    | succ n ih =>
      intro m hm' Mk fk hSk hCk gk
      have e1 : (((n + 1 : Nat) : Int) - 1) = n := by omega
      rw [e1]
      refine B_X1_likely_29 (by omega) hSk ⟨⟨by omega, by omega⟩, fun q => by omega, fun _ => ⟨sO_52 hSk, sO_53 hSk, by rw [sL_52 hSk]; decide, by rw [sL_53 hSk]; decide, fun M6 e6 => ?_⟩⟩
      have c6 : Ch Mk M6 53 0 84 := by
        rw [e6]
        refine ⟨rfl, fun _ => rfl, fun b j w => ?_⟩
        rw [rd_cp, if_neg (by omega)]
      have r6 : ∀ j : Int, 0 ≤ j → j < 84 → rd M6 53 j = rd Mk 52 j := fun j j0 j1 => by
        rw [e6, rd_cp, if_pos ⟨rfl, by omega, by omega⟩]; congr 1; omega
      have hS6 : Sh M6 := hSk.ch c6 (by rw [(sO_53 hSk).2.2]; decide)
      refine ⟨hS6, ?_⟩
      have gk' : HrC M6 53 (wyG r sm m ((n : Int) + 1)) := by
        have e : ((n + 1 : Nat) : Int) = (n : Int) + 1 := by omega
        rw [e] at gk
        exact gk.eq r6
      refine T_X1_stepBack (m := m) hS6 (hCk.fr (K := fun a _ => a = 53) (Fr.ch c6 (fun _ _ _ => rfl)) (fun a j w => by omega)) hne ⟨by omega, by omega⟩ gk' (by omega) (fun M11 f11 hS11 hC11 g11 => ?_)
      show Sh M11 ∧ _
      refine ⟨hS11, ?_⟩
      have := ih (m + 1) (by omega) M11 ((fk.tr (Fr.ch c6 (fun j _ _ => by unfold KCt; omega))).tr f11) hS11 hC11 g11
      rw [show (n : Int) + (-1) = n - 1 by omega]
      exact this
  have := k29 (r 4).toNat 0 (by omega) M3 (f3.mono (fun a j w => by unfold KCt; omega)) hS3 C3 (by
    intro z z0 z1
    have := g3 z z0 z1
    rw [show (((r 4).toNat : Nat) : Int) = r 4 by omega]
    exact this)
  rw [show (((r 4).toNat : Nat) : Int) = r 4 by omega] at this
  exact this
end WE
