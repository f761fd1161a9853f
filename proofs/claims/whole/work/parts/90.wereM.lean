/-! ===== heads that were counted: the model ===== -/
def Sm6 (M : MM) (a : Int) : Int := sumTo (fun k => vl (rd M a) (14 * k) 14) 36
def Wt6 (M : MM) (a : Int) (g : Int → Int) : Int := sumTo (fun k => vl (rd M a) (14 * k) 14 * g k) 36
def nrA (M : MM) (a : Int) : Prop := ∀ k : Int, 0 ≤ k → k < 36 → nrm (rd M a) (14 * k) 14
theorem sumTo_term {f : Int → Int} {q : Int} : ∀ {n : Nat}, 0 ≤ q → q < n → (∀ i : Int, 0 ≤ i → i < n → 0 ≤ f i) → f q ≤ sumTo f n
  | 0, _, h, _ => by omega
  | n + 1, q0, q1, h => by
    rw [sumTo]
    by_cases e : q = n
    · rw [e]
      have := sumTo_mono (f := f) (n := 0) (m := n) (by omega) (fun i i0 i1 => h i i0 (by omega))
      have e0 : sumTo f 0 = 0 := rfl
      omega
    · have := sumTo_term (f := f) (n := n) q0 (by omega) (fun i i0 i1 => h i i0 (by omega))
      have := h n (by omega) (by omega)
      omega
theorem Sm6.upd {M M' : MM} {a q δ : Int} (hc : Ch M M' a (14 * q) 14) (q0 : 0 ≤ q) (q1 : q < 36) (e : vl (rd M' a) (14 * q) 14 = vl (rd M a) (14 * q) 14 + δ) (g : Int → Int) : Sm6 M' a = Sm6 M a + δ ∧ Wt6 M' a g = Wt6 M a g + δ * g q ∧ ∀ k : Int, k ≠ q → vl (rd M' a) (14 * k) 14 = vl (rd M a) (14 * k) 14 := by
  have hne : ∀ k : Int, k ≠ q → vl (rd M' a) (14 * k) 14 = vl (rd M a) (14 * k) 14 := fun k w => vl_congr (fun i i0 i1 => hc.2.2 _ _ (by omega))
  refine ⟨?_, ?_, hne⟩
  · have := sumTo_upd (f := fun k => vl (rd M a) (14 * k) 14) (g := fun k => vl (rd M' a) (14 * k) 14) (q := q) (δ := δ) q0 e hne (n := 36)
    rw [if_pos (by omega)] at this
    exact this
  · have := sumTo_upd (f := fun k => vl (rd M a) (14 * k) 14 * g k) (g := fun k => vl (rd M' a) (14 * k) 14 * g k) (q := q) (δ := δ * g q) q0 (by rw [e, Int.add_mul]) (fun k w => by rw [hne k w]) (n := 36)
    rw [if_pos (by omega)] at this
    exact this
def KPs (a j : Int) : Prop := KA a j ∨ a = 84 ∨ a = 87 ∨ a = 90 ∨ a = 91
section WM
variable {G : GG} {d : Nat} {M : MM} {Q : PV → MM → Prop} {r : Int → Int} {sm : Int → LSm}
theorem ar90 (hS : Sh M) {a k : Int} (ha : a = 90 ∨ a = 91) (k0 : 0 ≤ k) (k1 : k < 36) : Ar M a (14 * k) 14 := by
  rcases ha with rfl | rfl
  · exact hS.Ar 90 504 rfl ⟨by decide, by decide, by omega, by decide⟩ (by omega)
  · exact hS.Ar 91 504 rfl ⟨by decide, by decide, by omega, by decide⟩ (by omega)
theorem ar83 (hS : Sh M) {a : Int} (ha : a = 83 ∨ a = 84 ∨ a = 85 ∨ a = 86) : Ar M a 0 14 := by
  rcases ha with rfl | rfl | rfl | rfl
  · exact hS.Ar 83 14 rfl ⟨by decide, by decide, by decide, by decide⟩ (by decide)
  · exact hS.Ar 84 14 rfl ⟨by decide, by decide, by decide, by decide⟩ (by decide)
  · exact hS.Ar 85 14 rfl ⟨by decide, by decide, by decide, by decide⟩ (by decide)
  · exact hS.Ar 86 14 rfl ⟨by decide, by decide, by decide, by decide⟩ (by decide)
def gK (r : Int → Int) (sm : Int → LSm) (m : Nat) (i : Int) : Int → Int := fun k => bwG r sm m i (k / 6) (k % 6)
theorem T_X12_pass {i : Int} {m t : Nat} (hS : Sh M) (hM : MOK M sm) (er : rd M 69 = r) (hne : r 5 ≠ -1) (hi : 0 ≤ i ∧ i + 1 + m = r 4) (hn : nrA M 90) (hs : Sm6 M 90 ≤ tnP t) (ht : t ≤ 4) (hd : 8 ≤ d)
    (h : ∀ M', Fr KPs M M' → Sh M' → nrA M' 90 → Sm6 M' 90 ≤ tnP (t + 1) → Wt6 M' 90 (gK r sm m (i + 1)) = Wt6 M 90 (gK r sm (m + 1) i) → Q vU M') :
    C G Y_X12_pass d 0 0 [vA 67, vI (hdF r i), vI (pfx (hdF r) i.toNat), vI (lat (hdF r) i.toNat), vI (hdN r (i + 1))] M Q := by
  have hV : RS r := by rw [← er]; exact hM.1
  obtain ⟨hR, h4, hsr, hN⟩ := hd_ok hV
  have hH1 := hN hne (i + 1) (by omega) (by omega)
  have n5 := hV.2.1
  have hfi := hsr i hi.1 (by omega)
  have hns := pfx_NS hR (i := i.toNat) (by omega)
  have tt : tnP t ≤ tnP 4 := by
    have : t = 0 ∨ t = 1 ∨ t = 2 ∨ t = 3 ∨ t = 4 := by omega
    rcases this with e | e | e | e | e <;> rw [e] <;> decide +kernel
  have big : (3 : Int) * (100000000000000000000 * tnP 4) < Bp 14 := by decide +kernel
  have t0 := tnP_pos t
  generalize hsE : hdF r i = s at *
  generalize hpE : pfx (hdF r) i.toNat = p at *
  generalize hlE : lat (hdF r) i.toNat = l at *
  generalize hhE : hdN r (i + 1) = hh at *
  have kPA : ∀ a j, KPs a j → a ≠ 69 := fun a j q => by unfold KPs KA at q; omega
  have e69 : ∀ Mk, Fr KPs M Mk → rd Mk 69 = r := fun Mk fk => by rw [← er]; exact funext fun j => fk.2.2 _ _ (fun q => kPA _ _ q rfl)
  have hMk : ∀ Mk, Fr KPs M Mk → MOK Mk sm := fun Mk fk => hM.fr fk (fun j q => kPA _ _ q rfl)
  -- what stands now
  let nw : Int → Int := fun k => vl (rd M 90) (14 * k) 14
  have nw0 : ∀ k : Int, 0 ≤ k → k < 36 → 0 ≤ nw k := fun k k0 k1 => (vl_lt (hn k k0 k1)).1
  have nwS : ∀ k : Int, 0 ≤ k → k < 36 → nw k ≤ tnP t := fun k k0 k1 => by
    have h1 := sumTo_term (f := nw) (n := 36) k0 k1 (fun i i0 i1 => nw0 i i0 (by omega))
    have h2 : sumTo nw 36 ≤ tnP t := hs
    omega
  have nwP : ∀ k : Nat, k ≤ 36 → 0 ≤ sumTo nw k ∧ sumTo nw k ≤ tnP t := fun k hk => by
    have m1 := sumTo_mono (f := nw) (n := k) (m := 36) hk (fun i i0 i1 => nw0 i i0 (by omega))
    have m0 := sumTo_mono (f := nw) (n := 0) (m := k) (by omega) (fun i i0 i1 => nw0 i i0 (by omega))
    have h2 : sumTo nw 36 ≤ tnP t := hs
    have e0 : sumTo nw 0 = 0 := rfl
    omega
  -- the copy back
  have k208 : ∀ n k : Nat, k + n = 504 → ∀ Mk, Fr KPs M Mk → Sh Mk → nrA Mk 91 → Sm6 Mk 91 ≤ tnP (t + 1) → Wt6 Mk 91 (gK r sm m (i + 1)) = Wt6 M 90 (gK r sm (m + 1) i) → (∀ j : Int, 0 ≤ j → j < k → rd Mk 90 j = rd Mk 91 j) → X G Y_X12_pass d 0 0 208 [vA 67, vI s, vI p, vI l, vI hh, vI k, vU, vU, vU, vU] [] Mk Q := by
    intro n
    induction n with
    | zero =>
      intro k hk Mk fk hSk a1 a2 a3 a4
      have ev : ∀ q : Int, 0 ≤ q → q < 36 → vl (rd Mk 90) (14 * q) 14 = vl (rd Mk 91) (14 * q) 14 := fun q q0 q1 => vl_congr (fun j j0 j1 => a4 _ (by omega) (by omega))
      refine B_X12_pass_208 (by omega) hSk ⟨⟨by omega, by omega⟩, fun _ => h Mk fk hSk (fun q q0 q1 j j0 j1 => by rw [a4 _ (by omega) (by omega)]; exact a1 q q0 q1 j j0 j1) ?_ ?_, fun q => by omega⟩
      · have : Sm6 Mk 90 = Sm6 Mk 91 := sumTo_congr (fun q q0 q1 => ev q q0 (by omega))
        rw [this]; exact a2
      · have : Wt6 Mk 90 (gK r sm m (i + 1)) = Wt6 Mk 91 (gK r sm m (i + 1)) := sumTo_congr (fun q q0 q1 => by rw [ev q q0 (by omega)])
        rw [this]; exact a3
    | succ n ih =>
      intro k hk Mk fk hSk a1 a2 a3 a4
      refine B_X12_pass_208 (by omega) hSk ⟨⟨by omega, by omega⟩, fun q => by omega, fun _ => ⟨by omega, by omega, fun M4 e4 hS4 => ?_⟩⟩
      have z4 : rd M4 91 = rd Mk 91 := funext fun j => by rw [e4, rd_wr, if_neg (by omega)]
      refine ih (k + 1) (by omega) M4 (by rw [e4]; exact fk.wr (by unfold KPs; omega)) hS4 (by unfold nrA; rw [z4]; exact a1) (by unfold Sm6; rw [z4]; exact a2) (by rw [← a3]; unfold Wt6; rw [z4]) (fun j j0 j1 => ?_)
      rw [z4, e4, rd_wr]
      by_cases w : j = k
      · rw [if_pos ⟨rfl, w⟩, w]
      · rw [if_neg (fun y => w y.2)]; exact a4 j j0 (by omega)
  -- state by state
  have k28 : ∀ n k : Nat, k + n = 36 → ∀ Mk, Fr KPs M Mk → Sh Mk → (∀ j, rd Mk 90 j = rd M 90 j) → nrA Mk 91 → Sm6 Mk 91 ≤ 100000000000000000000 * sumTo nw k → Wt6 Mk 91 (gK r sm m (i + 1)) = sumTo (fun q => nw q * gK r sm (m + 1) i q) k → X G Y_X12_pass d 0 0 28 [vA 67, vI s, vI p, vI l, vI hh, vI k, vU, vU, vU, vU] [] Mk Q := by
    intro n
    induction n with
    | zero =>
      intro k hk Mk fk hSk e90 a1 a2 a3
      have k36 : k = 36 := by omega
      subst k36
      have h2 := nwP 36 (by omega)
      refine B_X12_pass_28 (sm := sm) (by omega) hSk ⟨⟨by omega, by omega⟩, fun _ => ?_, fun q => by omega⟩
      exact k208 504 0 rfl Mk fk hSk a1 (by rw [tnP_s]; omega) a3 (fun j j0 j1 => by omega)
    | succ n ih =>
      intro k hk Mk fk hSk e90 a1 a2 a3
      have hz : 0 ≤ (k : Int) / 6 ∧ (k : Int) / 6 < 6 := by omega
      have ho : 0 ≤ (k : Int) % 6 ∧ (k : Int) % 6 < 6 := by omega
      have hk6 : 6 * ((k : Int) / 6) + (k : Int) % 6 = k := by omega
      refine B_X12_pass_28 (sm := sm) (by omega) hSk ?_
      rw [Int.tdiv_eq_ediv_of_nonneg (by omega), Int.tmod_eq_emod_of_nonneg (by omega), e69 Mk fk]
      refine ⟨⟨by omega, by omega⟩, fun q => by omega, fun _ v2 e2 v3 e3 => ?_⟩
      have gKk : gK r sm (m + 1) i k = bwG r sm (m + 1) i v2 v3 := by rw [e2, e3]; rfl
      rw [← e2] at hz hk6
      rw [← e3] at ho hk6
      clear e2 e3
      refine ⟨hMk Mk fk, Or.inl rfl, ⟨⟨hfi.1, by omega⟩, hns.1, hns.2.1, hz, ho⟩, fun r8 M7 e7 hS7 => ?_⟩
      obtain ⟨f7, e8⟩ := e7
      have c0b : 0 ≤ r8 ∧ r8 ≤ 100 := by rw [e8]; exact chn_ok
      refine ⟨⟨by decide, by decide⟩, hz, c0b, fun M13 e13 hS13 => ?_⟩
      obtain ⟨c13, q13⟩ := e13
      have f13 : Fr KPs M M13 := (fk.tr (f7.mono (fun a j w => Or.inl w))).tr (Fr.ch c13 (fun j _ _ => by unfold KPs; omega))
      rw [e69 M13 f13]
      refine ⟨hMk M13 f13, Or.inr rfl, fun r19 M18 e18 hS18 => ?_⟩
      obtain ⟨f18, e19⟩ := e18
      have c1b : 0 ≤ r19 ∧ r19 ≤ 100 := by rw [e19]; exact chn_ok
      refine ⟨⟨by decide, by decide⟩, ho, c1b, fun M24 e24 hS24 => ?_⟩
      obtain ⟨c24, q24⟩ := e24
      have f24 : Fr (fun a j => KA a j ∨ a = 87) Mk M24 := by
        refine Fr.tr (M1 := M18) (Fr.tr (M1 := M13) (Fr.tr (M1 := M7) (f7.mono ?_) (Fr.ch c13 ?_)) (f18.mono ?_)) (Fr.ch c24 ?_)
        · exact fun a j w => Or.inl w
        · exact fun j _ _ => Or.inr rfl
        · exact fun a j w => Or.inl w
        · exact fun j _ _ => Or.inr rfl
      have z24 : ∀ a : Int, (a = 90 ∨ a = 91) → rd M24 a = rd Mk a := fun a w => funext fun j => f24.2.2 _ _ (by unfold KA; omega)
      have s0 : ∀ a : Int, 0 ≤ a → a ≤ v2 → rd M24 87 (6 * v2 + a) = stv v2 r8 a := fun a a0 a1 => by
        rw [c24.2.2 _ _ (by omega), f18.2.2 _ _ (by unfold KA; omega)]
        have := q13 a a0 a1
        rw [show 36 * (0 : Int) + 6 * v2 + a = 6 * v2 + a by omega] at this
        exact this
      have s1 : ∀ b : Int, 0 ≤ b → b ≤ v3 → rd M24 87 (36 + 6 * v3 + b) = stv v3 r19 b := fun b b0 b1 => q24 b b0 b1
      have st0 : ∀ a : Int, 0 ≤ a → a ≤ v2 → 0 ≤ stv v2 r8 a ∧ stv v2 r8 a ≤ 10000000000 := fun a a0 a1 => stv_ok hz.1 hz.2 c0b.1 (by omega) a0 (by omega)
      have st1 : ∀ b : Int, 0 ≤ b → b ≤ v3 → 0 ≤ stv v3 r19 b ∧ stv v3 r19 b ≤ 10000000000 := fun b b0 b1 => stv_ok ho.1 ho.2 c1b.1 (by omega) b0 (by omega)
      have su0 := stv_sum hz.1 hz.2 c0b.1 (show r8 < 101 by omega)
      have nk0 := nw0 k (by omega) (by omega)
      have nkS := nwS k (by omega) (by omega)
      have npk := nwP k (by omega)
      have npk1 := nwP (k + 1) (by omega)
      -- the terms of one state
      let tm : Int → Int := fun a => if 0 ≤ hh - a ∧ hh - a ≤ v3 then stv v2 r8 a * (stv v3 r19 (hh - a) * bwG r sm m (i + 1) a (hh - a)) else 0
      have tmE : sumTo tm (v2.toNat + 1) = gK r sm (m + 1) i k := by
        rw [gKk, bwG]
        refine sumTo_congr (fun a a0 a1 => ?_)
        rw [hsE, hpE, hlE, hhE, ← e8, ← e19]
      have k90 : ∀ n2 a : Nat, (a : Int) + n2 = v2 + 1 → ∀ Ma, Fr (fun b _ => b = 84 ∨ b = 91) M24 Ma → Sh Ma → nrA Ma 91 → Sm6 Ma 91 ≤ 100000000000000000000 * sumTo nw k + nw k * (10000000000 * sumTo (fun a => stv v2 r8 a) a) → Wt6 Ma 91 (gK r sm m (i + 1)) = sumTo (fun q => nw q * gK r sm (m + 1) i q) k + nw k * sumTo tm a → X G Y_X12_pass d 0 0 90 [vA 67, vI s, vI p, vI l, vI hh, vI k, vI v2, vI v3, vI a, vU] [] Ma Q := by
        intro n2
        induction n2 with
        | zero =>
          intro a ha Ma fa hSa b1 b2 b3
          have fa' : Fr KPs M Ma := (fk.tr (f24.mono (fun a j w => by unfold KPs; rcases w with w | w; exact Or.inl w; exact Or.inr (by omega)))).tr (fa.mono (fun a j w => by unfold KPs; omega))
          have e90a : ∀ j, rd Ma 90 j = rd M 90 j := fun j => by rw [fa.2.2 _ _ (by omega), z24 90 (Or.inl rfl)]; exact e90 j
          have ea : a = v2.toNat + 1 := by omega
          rw [ea] at b2 b3
          rw [su0] at b2
          rw [tmE] at b3
          refine B_X12_pass_90 (by omega) hSa ⟨⟨by omega, by omega⟩, ⟨by omega, by omega⟩, fun _ => ih (k + 1) (by omega) Ma fa' hSa e90a b1 ?_ ?_, fun q => by omega⟩
          · rw [sumTo]; omega
          · rw [sumTo]; exact b3
        | succ n2 iha =>
          intro a ha Ma fa hSa b1 b2 b3
          have sa := st0 a (by omega) (by omega)
          have ssa : 0 ≤ sumTo (fun a => stv v2 r8 a) a ∧ sumTo (fun a => stv v2 r8 a) a ≤ 10000000000 := by
            have m1 := sumTo_mono (f := fun a => stv v2 r8 a) (n := a) (m := v2.toNat + 1) (by omega) (fun i i0 i1 => (st0 i i0 (by omega)).1)
            have m0 := sumTo_mono (f := fun a => stv v2 r8 a) (n := 0) (m := a) (by omega) (fun i i0 i1 => (st0 i i0 (by omega)).1)
            rw [su0] at m1
            exact ⟨m0, m1⟩
          refine B_X12_pass_90 (by omega) hSa ⟨⟨by omega, by omega⟩, ⟨by omega, by omega⟩, fun q => by omega, fun _ v9 e9 => ⟨⟨by omega, by omega⟩, ⟨by omega, by omega⟩, fun q => ?_, fun q => ?_⟩⟩
          · have et : tm a = 0 := if_neg (by omega)
            have mm := Int.mul_nonneg nk0 sa.1
            refine iha (a + 1) (by omega) Ma fa hSa b1 ?_ ?_
            · rw [sumTo, Int.mul_add, Int.mul_add]
              have : nw k * (10000000000 * stv v2 r8 a) = 10000000000 * (nw k * stv v2 r8 a) := by grind
              omega
            · rw [sumTo, et, Int.add_zero]; exact b3
          · have hw : 0 ≤ hh - a ∧ hh - a ≤ v3 := by omega
            have et : tm a = stv v2 r8 a * (stv v3 r19 (hh - a) * bwG r sm m (i + 1) a (hh - a)) := if_pos hw
            have sb1 := st1 _ hw.1 hw.2
            have A84 := ar83 hSa (a := 84) (Or.inr (Or.inl rfl))
            refine ⟨A84, fun M15 e15 hS15 => ?_⟩
            obtain ⟨c15, z15⟩ := e15
            have f15 : Fr (fun b _ => b = 84 ∨ b = 91) M24 M15 := fa.tr (Fr.ch c15 (fun _ _ _ => Or.inl rfl))
            have w87 : rd M15 87 ((36 + (6 * v3)) + v9) = stv v3 r19 (hh - a) := by rw [f15.2.2 _ _ (by omega), e9]; exact s1 _ hw.1 hw.2
            have e90' : ∀ j, rd M15 90 j = rd M 90 j := fun j => by rw [f15.2.2 _ _ (by omega), z24 90 (Or.inl rfl)]; exact e90 j
            have n90 : nrm (rd M15 90) (14 * k) 14 := fun j j0 j1 => by rw [e90']; exact hn k (by omega) (by omega) j j0 j1
            have v90 : vl (rd M15 90) (14 * k) 14 = nw k := vl_congr (fun j j0 j1 => e90' _)
            have v84 : vl (rd M15 84) 0 14 = 0 := vl_zero z15
            have mn1 := mul_le nk0 nkS sb1.1 sb1.2
            rw [w87, v90, v84]
            refine ⟨by omega, by omega, ar83 hS15 (Or.inr (Or.inl rfl)), ar90 hS15 (Or.inl rfl) (by omega) (by omega), by decide, nrm0 z15, n90, sb1, by omega, fun M27 e27 hS27 => ?_⟩
            obtain ⟨c27, n27, v27⟩ := e27
            have f27 : Fr (fun b _ => b = 84 ∨ b = 91) M24 M27 := f15.tr (Fr.ch c27 (fun _ _ _ => Or.inl rfl))
            have w87' : rd M27 87 ((6 * v2) + a) = stv v2 r8 a := by rw [f27.2.2 _ _ (by omega)]; exact s0 a (by omega) (by omega)
            have z91 : rd M27 91 = rd Ma 91 := funext fun j => by rw [c27.2.2 _ _ (by omega), c15.2.2 _ _ (by omega)]
            have hq : 0 ≤ 6 * (a : Int) + v9 ∧ 6 * (a : Int) + v9 < 36 := by omega
            have b1q := b1 (6 * (a : Int) + v9) hq.1 hq.2
            have tq : vl (rd Ma 91) (14 * (6 * (a : Int) + v9)) 14 ≤ Sm6 Ma 91 := sumTo_term (f := fun k => vl (rd Ma 91) (14 * k) 14) (n := 36) hq.1 hq.2 (fun q q0 q1 => (vl_lt (b1 q q0 (by omega))).1)
            have ms := mul_le nk0 nkS ssa.1 ssa.2
            have em : nw k * (10000000000 * sumTo (fun a => stv v2 r8 a) a) = 10000000000 * (nw k * sumTo (fun a => stv v2 r8 a) a) := by grind
            have mn2 := mul_le mn1.1 mn1.2 sa.1 sa.2
            rw [w87', z91, v27, Int.zero_add]
            refine ⟨by omega, by omega, ar90 hS27 (Or.inr rfl) hq.1 hq.2, ar83 hS27 (Or.inr (Or.inl rfl)), by decide, b1q, n27, sa, by omega, fun M39 e39 hS39 => ?_⟩
            obtain ⟨c39, n39, v39⟩ := e39
            have ud := Sm6.upd (M := M27) (M' := M39) (a := 91) (q := 6 * (a : Int) + v9) (δ := nw k * stv v3 r19 (hh - a) * stv v2 r8 a) c39 hq.1 hq.2 (by rw [v39, z91]) (gK r sm m (i + 1))
            have eS : Sm6 M27 91 = Sm6 Ma 91 := by unfold Sm6; rw [z91]
            have eW : Wt6 M27 91 (gK r sm m (i + 1)) = Wt6 Ma 91 (gK r sm m (i + 1)) := by unfold Wt6; rw [z91]
            have gq : gK r sm m (i + 1) (6 * (a : Int) + v9) = bwG r sm m (i + 1) a (hh - a) := by
              unfold gK
              rw [show (6 * (a : Int) + v9) / 6 = a by omega, show (6 * (a : Int) + v9) % 6 = hh - a by omega]
            refine iha (a + 1) (by omega) M39 (f27.tr (Fr.ch c39 (fun _ _ _ => Or.inr rfl))) hS39 (fun q q0 q1 => ?_) ?_ ?_
            · by_cases w : q = 6 * (a : Int) + v9
              · rw [w]; exact n39
              · intro j j0 j1
                rw [c39.2.2 _ _ (by omega), z91]
                exact b1 q q0 q1 j j0 j1
            · rw [ud.1, eS, sumTo, Int.mul_add, Int.mul_add]
              have m3 : nw k * stv v3 r19 (hh - a) * stv v2 r8 a ≤ nw k * (10000000000 * stv v2 r8 a) := by
                rw [Int.mul_assoc]
                exact Int.mul_le_mul_of_nonneg_left (Int.mul_le_mul_of_nonneg_right sb1.2 sa.1) nk0
              omega
            · rw [ud.2.1, eW, b3, gq, sumTo, et]
              grind
      exact k90 (v2.toNat + 1) 0 (by omega) M24 Fr.rf hS24 (fun q q0 q1 => by rw [z24 91 (Or.inr rfl)]; exact a1 q q0 q1) (by unfold Sm6 at a2 ⊢; rw [z24 91 (Or.inr rfl)]; show _ ≤ _ + nw k * (10000000000 * 0); omega) (by unfold Wt6 at a3 ⊢; rw [z24 91 (Or.inr rfl), a3]; show _ = _ + nw k * 0; omega)
  -- clearing
  have k3 : ∀ n k : Nat, k + n = 504 → ∀ Mk, Fr (fun a _ => a = 91) M Mk → Sh Mk → (∀ j : Int, 0 ≤ j → j < k → rd Mk 91 j = 0) → X G Y_X12_pass d 0 0 3 [vA 67, vI s, vI p, vI l, vI hh, vI k, vU, vU, vU, vU] [] Mk Q := by
    intro n
    induction n with
    | zero =>
      intro k hk Mk fk hSk z0
      have ev : ∀ q : Int, 0 ≤ q → q < 36 → vl (rd Mk 91) (14 * q) 14 = 0 := fun q q0 q1 => vl_zero (fun j j0 j1 => z0 _ (by omega) (by omega))
      refine B_X12_pass_3 (by omega) hSk ⟨⟨by omega, by omega⟩, fun _ => ?_, fun q => by omega⟩
      refine k28 36 0 rfl Mk (fk.mono (fun a j w => by unfold KPs; omega)) hSk (fun j => fk.2.2 _ _ (by show ¬ ((90 : Int) = 91); decide)) (fun q q0 q1 => nrm0 (fun j j0 j1 => z0 _ (by omega) (by omega))) ?_ ?_
      · have : Sm6 Mk 91 = 0 := sumTo_z (fun q q0 q1 => ev q q0 (by omega))
        rw [this]; exact Int.le_refl 0
      · have : Wt6 Mk 91 (gK r sm m (i + 1)) = 0 := sumTo_z (fun q q0 q1 => by rw [ev q q0 (by omega), Int.zero_mul])
        rw [this]; rfl
    | succ n ih =>
      intro k hk Mk fk hSk z0
      refine B_X12_pass_3 (by omega) hSk ⟨⟨by omega, by omega⟩, fun q => by omega, fun _ => ⟨by omega, by omega, fun M4 e4 hS4 => ?_⟩⟩
      refine ih (k + 1) (by omega) M4 (by rw [e4]; exact fk.wr rfl) hS4 (fun j j0 j1 => ?_)
      rw [e4, rd_wr]
      by_cases w : j = k
      · rw [if_pos ⟨rfl, w⟩]
      · rw [if_neg (fun y => w y.2)]; exact z0 j j0 (by omega)
  exact C_X12_pass (B_X12_pass_0 (by omega) hS (k3 504 0 rfl M Fr.rf hS (fun j j0 j1 => by omega)))
def KLk (a j : Int) : Prop := KPs a j ∨ a = 83
theorem T_X12_liken {z : Int} (hS : Sh M) (hM : MOK M sm) (er : rd M 69 = r) (hne : r 5 ≠ -1) (hz : 0 ≤ z ∧ z < 6) (hd : 9 ≤ d)
    (h : ∀ M', Fr KLk M M' → Sh M' → nrm (rd M' 83) 0 14 → vl (rd M' 83) 0 14 = wyG r sm (r 4).toNat 0 z → Q vU M') : C G Y_X12_liken d 0 0 [vA 67, vI z] M Q := by
  have hV : RS r := by rw [← er]; exact hM.1
  obtain ⟨hR, h4, hsr, hN⟩ := hd_ok hV
  have h5 := hN hne 0 (by decide) h4.1
  have e5 : hdN r 0 = r 5 := rfl
  rw [e5] at h5
  have n5 := hV.2.1
  refine C_X12_liken (B_X12_liken_0 (by omega) hS ?_)
  rw [er]
  intro v1 e1
  refine ⟨ar83 hS (Or.inl rfl), fun M3 e3 hS3 => ?_⟩
  obtain ⟨c3, z3⟩ := e3
  have f3 : Fr KLk M M3 := Fr.ch c3 (fun j _ _ => Or.inr rfl)
  have kA : ∀ a j, KLk a j → a ≠ 69 := fun a j q => by unfold KLk KPs KA at q; omega
  have e69 : ∀ Mk, Fr KLk M Mk → rd Mk 69 = r := fun Mk fk => by rw [← er]; exact funext fun j => fk.2.2 _ _ (fun q => kA _ _ q rfl)
  have hMk : ∀ Mk, Fr KLk M Mk → MOK Mk sm := fun Mk fk => hM.fr fk (fun j q => kA _ _ q rfl)
  have v3 : vl (rd M3 83) 0 14 = 0 := vl_zero z3
  refine ⟨⟨by omega, by omega⟩, fun q => absurd ⟨hz.1, by omega⟩ q, fun _ => ⟨⟨by omega, by omega⟩, fun q => ?_, fun q => ?_⟩⟩
  · -- it is a way
    have hw : z ≤ hdN r 0 ∧ hdN r 0 - z ≤ 5 := by rw [e5]; omega
    have eW : wyG r sm (r 4).toNat 0 z = bwG r sm (r 4).toNat 0 z v1 := by unfold wyG; rw [if_pos hw, e5, e1]
    have big : (2 : Int) * tnP 5 < Bp 14 := by decide +kernel
    -- the sum of all
    have k149 : ∀ n k : Nat, k + n = 36 → ∀ (Mk : MM) (x3 x4 : Int), Fr KLk M Mk → Sh Mk → nrA Mk 90 → Sm6 Mk 90 ≤ tnP 5 → Sm6 Mk 90 = bwG r sm (r 4).toNat 0 z v1 → nrm (rd Mk 83) 0 14 → vl (rd Mk 83) 0 14 = sumTo (fun k => vl (rd Mk 90) (14 * k) 14) k → X G Y_X12_liken d 0 0 149 [vA 67, vI z, vI v1, vI x3, vI x4, vI k, vU] [] Mk Q := by
      intro n
      induction n with
      | zero =>
        intro k hk Mk x3 x4 fk hSk a1 a2 a3 a4 a5
        have k36 : k = 36 := by omega
        subst k36
        exact B_X12_liken_149 (by omega) hSk ⟨⟨by omega, by omega⟩, fun _ => h Mk fk hSk a4 (by rw [a5, eW, ← a3]; rfl), fun q => by omega⟩
      | succ n ih =>
        intro k hk Mk x3 x4 fk hSk a1 a2 a3 a4 a5
        have p0 : ∀ q : Int, 0 ≤ q → q < 36 → 0 ≤ vl (rd Mk 90) (14 * q) 14 := fun q q0 q1 => (vl_lt (a1 q q0 q1)).1
        have m1 := sumTo_mono (f := fun k => vl (rd Mk 90) (14 * k) 14) (n := k) (m := 36) (by omega) (fun i i0 i1 => p0 i i0 (by omega))
        have m2 := sumTo_term (f := fun k => vl (rd Mk 90) (14 * k) 14) (q := k) (n := 36) (by omega) (by omega) (fun i i0 i1 => p0 i i0 (by omega))
        have a2' : sumTo (fun k => vl (rd Mk 90) (14 * k) 14) 36 ≤ tnP 5 := a2
        refine B_X12_liken_149 (by omega) hSk ⟨⟨by omega, by omega⟩, fun q => by omega, fun _ => ⟨ar83 hSk (Or.inl rfl), ar90 hSk (Or.inl rfl) (by omega) (by omega), by decide, a4, a1 k (by omega) (by omega), ⟨by decide, by decide⟩, by rw [a5]; omega, fun M9 e9 hS9 => ?_⟩⟩
        obtain ⟨c9, n9, v9⟩ := e9
        have z9 : rd M9 90 = rd Mk 90 := funext fun j => c9.2.2 _ _ (by omega)
        refine ih (k + 1) (by omega) M9 x3 x4 (fk.tr (Fr.ch c9 (fun j _ _ => Or.inr rfl))) hS9 (by unfold nrA; rw [z9]; exact a1) (by unfold Sm6; rw [z9]; exact a2) (by unfold Sm6; rw [z9]; exact a3) n9 ?_
        rw [v9, z9, a5, sumTo]; omega
    -- scene by scene
    have k87 : ∀ n i : Nat, (i : Int) + n = r 4 → ∀ Mk, Fr KLk M Mk → Sh Mk → nrA Mk 90 → Sm6 Mk 90 ≤ tnP i → Wt6 Mk 90 (gK r sm n i) = bwG r sm (r 4).toNat 0 z v1 → nrm (rd Mk 83) 0 14 → vl (rd Mk 83) 0 14 = 0 → X G Y_X12_liken d 0 0 87 [vA 67, vI z, vI v1, vI (pfx (hdF r) i), vI (lat (hdF r) i), vI i, vU] [] Mk Q := by
      intro n
      induction n with
      | zero =>
        intro i hi Mk fk hSk a1 a2 a3 a4 a5
        refine B_X12_liken_87 (by omega) hSk ?_
        rw [e69 Mk fk]
        have tt : tnP i ≤ tnP 5 := by
          have : i = 0 ∨ i = 1 ∨ i = 2 ∨ i = 3 ∨ i = 4 ∨ i = 5 := by omega
          rcases this with e | e | e | e | e | e <;> rw [e] <;> decide +kernel
        have e : Wt6 Mk 90 (gK r sm 0 i) = Sm6 Mk 90 := sumTo_congr (fun q q0 q1 => by show _ * 1 = _; rw [Int.mul_one])
        refine ⟨⟨by omega, by omega⟩, ⟨by omega, by omega⟩, fun _ => k149 36 0 rfl Mk _ _ fk hSk a1 (by omega) (by rw [← e]; exact a3) a4 (by rw [a5]; rfl), fun q => by omega⟩
      | succ n ih =>
        intro i hi Mk fk hSk a1 a2 a3 a4 a5
        refine B_X12_liken_87 (by omega) hSk ?_
        rw [e69 Mk fk]
        have eh : r (55 + (i : Int)) = hdN r ((i : Int) + 1) := by unfold hdN; rw [if_neg (by omega)]; congr 1; omega
        rw [eh]
        refine ⟨⟨by omega, by omega⟩, ⟨by omega, by omega⟩, fun q => by omega, fun _ => ⟨by omega, by omega, fun v5 e5' => ⟨by omega, by omega, ?_⟩⟩⟩
        have e5'' : v5 = hdF r i := e5'
        rw [e5'']
        refine T_X12_pass (r := r) (sm := sm) (i := i) (m := n) (t := i) hSk (hMk Mk fk) (e69 Mk fk) hne ⟨by omega, by omega⟩ a1 a2 (by omega) (by omega) (fun M8 f8 hS8 b1 b2 b3 => ?_)
        show Sh M8 ∧ _
        have z83 : rd M8 83 = rd Mk 83 := funext fun j => f8.2.2 _ _ (by unfold KPs KA; omega)
        refine ⟨hS8, fun v9 e9 => ?_⟩
        have e9' : v9 = pfx (hdF r) (i + 1) := e9
        rw [e9']
        have el : hdF r i = lat (hdF r) (i + 1) := by unfold lat; rw [if_neg (by omega)]; congr 1; omega
        have := ih (i + 1) (by omega) M8 (fk.tr (f8.mono (fun a j w => Or.inl w))) hS8 b1 b2 (by push_cast; rw [b3]; exact a3) (by rw [z83]; exact a4) (by rw [z83]; exact a5)
        rw [← el] at this
        exact this
    have k44 : ∀ n k : Nat, k + n = 504 → ∀ Mk, Fr KLk M Mk → Sh Mk → (∀ j : Int, 0 ≤ j → j < k → rd Mk 90 j = 0) → rd Mk 83 = rd M3 83 → X G Y_X12_liken d 0 0 44 [vA 67, vI z, vI v1, vI k, vU, vU, vU] [] Mk Q := by
      intro n
      induction n with
      | zero =>
        intro k hk Mk fk hSk z0 e83
        have hq : 0 ≤ 6 * z + v1 ∧ 6 * z + v1 < 36 := by omega
        refine B_X12_liken_44 (by omega) hSk ⟨⟨by omega, by omega⟩, fun _ => ⟨by omega, by omega, fun M4 e4 hS4 => ?_⟩, fun q => by omega⟩
        have z4 : ∀ a j : Int, ¬ (a = 90 ∧ j = 14 * (6 * z + v1)) → rd M4 a j = rd Mk a j := fun a j w => by rw [e4, rd_wr, if_neg w]
        have o4 : rd M4 90 (14 * (6 * z + v1)) = 1 := by rw [e4, rd_wr, if_pos ⟨rfl, rfl⟩]
        have p4 : ∀ j : Int, 0 ≤ j → j < 504 → j ≠ 14 * (6 * z + v1) → rd M4 90 j = 0 := fun j j0 j1 w => by rw [z4 _ _ (fun y => w y.2)]; exact z0 j j0 (by omega)
        have vq : vl (rd M4 90) (14 * (6 * z + v1)) 14 = 1 := by
          rw [vl_one (k := 0) (by decide) (fun j j0 j1 j2 => p4 _ (by omega) (by omega) (by omega))]
          show rd M4 90 (14 * (6 * z + v1) + 0) * 1 = 1
          rw [Int.add_zero, o4]; rfl
        have vo : ∀ k : Int, 0 ≤ k → k < 36 → k ≠ 6 * z + v1 → vl (rd M4 90) (14 * k) 14 = 0 := fun k k0 k1 w => vl_zero (fun j j0 j1 => p4 _ (by omega) (by omega) (by omega))
        have sm1 : ∀ g : Int → Int, sumTo (fun k => vl (rd M4 90) (14 * k) 14 * g k) 36 = g (6 * z + v1) := fun g => by
          have e : sumTo (fun k => vl (rd M4 90) (14 * k) 14 * g k) 36 = sumTo (fun k => if k = 6 * z + v1 then g (6 * z + v1) else 0) 36 := sumTo_congr (fun k k0 k1 => by
            by_cases w : k = 6 * z + v1
            · rw [w, vq, if_pos rfl, Int.one_mul]
            · rw [vo k k0 (by omega) w, if_neg w, Int.zero_mul])
          rw [e]
          have u := sumTo_upd (f := fun _ => 0) (g := fun k => if k = 6 * z + v1 then g (6 * z + v1) else 0) (q := 6 * z + v1) (δ := g (6 * z + v1)) hq.1 (by rw [if_pos rfl]; omega) (fun k w => if_neg w) (n := 36)
          rw [u, if_pos (by omega), sumTo_z (fun _ _ _ => rfl), Int.zero_add]
        have e83' : rd M4 83 = rd M3 83 := by rw [← e83]; exact funext fun j => z4 _ _ (by omega)
        refine k87 (r 4).toNat 0 (by omega) M4 (by rw [e4]; exact fk.wr (by unfold KLk KPs; omega)) hS4 (fun k k0 k1 j j0 j1 => ?_) ?_ ?_ (by rw [e83']; exact nrm0 z3) (by rw [e83']; exact v3)
        · by_cases w : 14 * k + j = 14 * (6 * z + v1)
          · rw [w, o4]; exact ⟨by decide, by decide⟩
          · rw [p4 _ (by omega) (by omega) w]; exact ⟨by decide, by decide⟩
        · have := sm1 (fun _ => 1)
          have e : Sm6 M4 90 = 1 := by rw [← this]; exact sumTo_congr (fun q _ _ => by rw [Int.mul_one])
          rw [e]; decide
        · have := sm1 (gK r sm (r 4).toNat ((0 : Nat) : Int))
          have e : gK r sm (r 4).toNat ((0 : Nat) : Int) (6 * z + v1) = bwG r sm (r 4).toNat 0 z v1 := by
            unfold gK
            rw [show (6 * z + v1) / 6 = z by omega, show (6 * z + v1) % 6 = v1 by omega]; rfl
          rw [e] at this
          exact this
      | succ n ih =>
        intro k hk Mk fk hSk z0 e83
        refine B_X12_liken_44 (by omega) hSk ⟨⟨by omega, by omega⟩, fun q => by omega, fun _ => ⟨by omega, by omega, fun M7 e7 hS7 => ?_⟩⟩
        refine ih (k + 1) (by omega) M7 (by rw [e7]; exact fk.wr (by unfold KLk KPs; omega)) hS7 (fun j j0 j1 => ?_) (by rw [← e83]; exact funext fun j => by rw [e7, rd_wr, if_neg (by omega)])
        rw [e7, rd_wr]
        by_cases w : j = k
        · rw [if_pos ⟨rfl, w⟩]
        · rw [if_neg (fun y => w y.2)]; exact z0 j j0 (by omega)
    exact k44 504 0 rfl M3 f3 hS3 (fun j j0 j1 => by omega) rfl
  · refine h M3 f3 hS3 (nrm0 z3) ?_
    rw [v3]
    unfold wyG
    rw [e5, if_neg (by omega)]
theorem T_X12_ratio {P T : Int} (hS : Sh M) (nP : nrm (rd M 86) 0 14) (eP : vl (rd M 86) 0 14 = P) (nT : nrm (rd M 85) 0 14) (eT : vl (rd M 85) 0 14 = T) (hT : 0 < T ∧ T ≤ 6 * tnP 5) (hP : P ≤ T) (hd : 2 ≤ d)
    (h : ∀ M', Fr (fun a _ => a = 83 ∨ a = 84) M M' → Sh M' → Q (vI (P * 1000000 / T)) M') : C G Y_X12_ratio d 0 0 [vA 67] M Q := by
  have P0 := vl_lt nP
  rw [eP] at P0
  have big : (6 : Int) * tnP 5 * 1000000 < Bp 14 := by decide +kernel
  refine C_X12_ratio (B_X12_ratio_0 hd hS ⟨ar83 hS (Or.inr (Or.inl rfl)), fun M2 e2 hS2 => ?_⟩)
  obtain ⟨c2, z2⟩ := e2
  have e86 : rd M2 86 = rd M 86 := funext fun j => c2.2.2 _ _ (by omega)
  rw [e86, eP, vl_zero z2]
  refine ⟨ar83 hS2 (Or.inr (Or.inl rfl)), ar83 hS2 (Or.inr (Or.inr (Or.inr rfl))), by decide, nrm0 z2, nP, ⟨by decide, by decide⟩, by omega, fun M12 e12 hS12 => ?_⟩
  obtain ⟨c12, n12, v12⟩ := e12
  rw [Int.zero_add] at v12
  have f12 : Fr (fun a _ => a = 83 ∨ a = 84) M M12 := (Fr.ch c2 (K := fun a _ => a = 83 ∨ a = 84) (fun _ _ _ => Or.inr rfl)).tr (Fr.ch c12 (fun _ _ _ => Or.inr rfl))
  have key : ∀ (n : Nat) (lo hi : Int) (Mk : MM), (hi - lo).toNat ≤ n → 0 ≤ lo → lo ≤ hi → hi ≤ 1000000 → lo * T ≤ P * 1000000 → P * 1000000 < (hi + 1) * T → Fr (fun a _ => a = 83 ∨ a = 84) M Mk → Sh Mk → nrm (rd Mk 84) 0 14 → vl (rd Mk 84) 0 14 = P * 1000000 → X G Y_X12_ratio d 0 0 30 [vA 67, vI lo, vI hi, vU] [] Mk Q := by
    intro n
    induction n with
    | zero =>
      intro lo hi Mk hn l0 lh h6 h1 h2 fk hSk nk vk
      have e : lo = hi := by omega
      refine B_X12_ratio_30 hd hSk ⟨⟨by omega, by omega⟩, ⟨by omega, by omega⟩, fun _ => ?_, fun q => by omega⟩
      have hN : P * 1000000 / T = lo := by
        refine Int.le_antisymm ?_ ?_
        · refine Int.le_of_lt_add_one (Int.ediv_lt_of_lt_mul hT.1 ?_)
          rw [e]; exact h2
        · exact Int.le_ediv_of_mul_le hT.1 h1
      rw [← hN]
      exact h Mk fk hSk
    | succ n ih =>
      intro lo hi Mk hn l0 lh h6 h1 h2 fk hSk nk vk
      have e85 : rd Mk 85 = rd M 85 := funext fun j => fk.2.2 _ _ (by show ¬ ((85 : Int) = 83 ∨ (85 : Int) = 84); decide)
      refine B_X12_ratio_30 hd hSk ?_
      rw [Int.tdiv_eq_ediv_of_nonneg (by omega)]
      refine ⟨⟨by omega, by omega⟩, ⟨by omega, by omega⟩, fun q => ?_, fun q => ⟨⟨by omega, by omega⟩, fun v4 e4 => ⟨ar83 hSk (Or.inl rfl), fun M6 e6 hS6 => ?_⟩⟩⟩
      · have e : lo = hi := by omega
        have hN : P * 1000000 / T = lo := by
          refine Int.le_antisymm ?_ ?_
          · refine Int.le_of_lt_add_one (Int.ediv_lt_of_lt_mul hT.1 ?_)
            rw [e]; exact h2
          · exact Int.le_ediv_of_mul_le hT.1 h1
        rw [← hN]
        exact h Mk fk hSk
      · obtain ⟨c6, z6⟩ := e6
        have e85' : rd M6 85 = rd M 85 := by rw [← e85]; exact funext fun j => c6.2.2 _ _ (by omega)
        have mm := mul_le (show 0 ≤ T by omega) hT.2 (show 0 ≤ v4 by omega) (show v4 ≤ 1000000 by omega)
        rw [e85', eT, vl_zero z6]
        refine ⟨⟨by omega, by omega⟩, ar83 hS6 (Or.inl rfl), ar83 hS6 (Or.inr (Or.inr (Or.inl rfl))), by decide, nrm0 z6, nT, ⟨by omega, by omega⟩, by omega, fun M17 e17 hS17 => ?_⟩
        obtain ⟨c17, n17, v17⟩ := e17
        rw [Int.zero_add] at v17
        have e84 : rd M17 84 = rd Mk 84 := funext fun j => by rw [c17.2.2 _ _ (by omega), c6.2.2 _ _ (by omega)]
        have f17 : Fr (fun a _ => a = 83 ∨ a = 84) M M17 := (fk.tr (Fr.ch c6 (fun _ _ _ => Or.inl rfl))).tr (Fr.ch c17 (fun _ _ _ => Or.inl rfl))
        rw [v17, e84, vk]
        refine ⟨ar83 hS17 (Or.inl rfl), ar83 hS17 (Or.inr (Or.inl rfl)), n17, nk, cmpI_R, fun w v25 e25 => ?_, fun w => ?_⟩
        · have w' := cmpI_pos.mp w
          refine ih lo v25 M17 (by omega) l0 (by omega) (by omega) h1 ?_ f17 hS17 (by rw [e84]; exact nk) (by rw [e84]; exact vk)
          rw [e25, show v4 - 1 + 1 = v4 by omega, Int.mul_comm v4 T]; exact w'
        · have w' : ¬ P * 1000000 < T * v4 := fun y => by have := cmpI_pos.mpr y; omega
          refine ih v4 hi M17 (by omega) (by omega) (by omega) h6 ?_ h2 f17 hS17 (by rw [e84]; exact nk) (by rw [e84]; exact vk)
          rw [Int.mul_comm]; omega
  refine key 1000000 0 1000000 M12 (by omega) (by decide) (by decide) (by decide) (by omega) ?_ f12 hS12 n12 v12
  have : P * 1000000 ≤ T * 1000000 := Int.mul_le_mul_of_nonneg_right hP (by decide)
  omega
def KWr (a j : Int) : Prop := KLk a j ∨ a = 85 ∨ a = 86 ∨ (a = 67 ∧ j = 0)
theorem T_X12_were {many : Int} (hS : Sh M) (hM : MOK M sm) (er : rd M 69 = r) (hm : inR many) (hd : 10 ≤ d)
    (h : ∀ M', Fr KWr M M' → Sh M' → Q (vI (if 0 ≤ many ∧ many ≤ 5 ∧ r 5 ≠ -1 then weV r sm many else -1)) M') : C G Y_X12_were d 0 0 [vA 67, vI many] M Q := by
  have hV : RS r := by rw [← er]; exact hM.1
  obtain ⟨hR, h4, hsr, hN⟩ := hd_ok hV
  have hr5 : -1 ≤ r 5 ∧ r 5 ≤ 10 := by
    obtain ⟨_, _, _, _, _, _, _, _, _, _, _, _, _, _, _, _, _, _, _, _, h5, h5', _⟩ := hV
    exact ⟨h5, h5'⟩
  have hwT := wyT_ok (sm := sm) hV
  have t5 : (12 : Int) * tnP 5 < Bp 14 := by decide +kernel
  have t5p := tnP_pos 5
  refine C_X12_were (B_X12_were_0 (by omega) hS fun M1 e1 hS1 => ?_)
  have f1 : Fr KWr M M1 := by rw [e1]; exact Fr.rf.wr (by unfold KWr; omega)
  have kA : ∀ a j, KWr a j → a ≠ 69 := fun a j q => by unfold KWr KLk KPs KA at q; omega
  have e69 : ∀ Mk, Fr KWr M Mk → rd Mk 69 = r := fun Mk fk => by rw [← er]; exact funext fun j => fk.2.2 _ _ (fun q => kA _ _ q rfl)
  have hMk : ∀ Mk, Fr KWr M Mk → MOK Mk sm := fun Mk fk => hM.fr fk (fun j q => kA _ _ q rfl)
  rw [e69 M1 f1]
  refine ⟨hm, ⟨by omega, by omega⟩, fun q => ?_, fun q => ?_⟩
  · have := h M1 f1 hS1
    rw [if_neg (by omega)] at this
    exact this
  · have hmm : 0 ≤ many ∧ many < 6 := by omega
    have hne : r 5 ≠ -1 := fun y => q (Or.inr y)
    have hfin : ∀ M', Fr KWr M M' → Sh M' → Q (vI (weV r sm many)) M' := fun M' f' hS' => by
      have := h M' f' hS'
      rw [if_pos ⟨hmm.1, by omega, hne⟩] at this
      exact this
    let wy : Int → Int := fun z => wyG r sm (r 4).toNat 0 z
    have wy0 : ∀ z : Int, 0 ≤ z → z < 6 → 0 ≤ wy z := fun z z0 z1 => (wyG_ok (r := r) (sm := sm) (r 4).toNat 0 z0 z1).1
    have wyS : ∀ k : Nat, k ≤ 6 → 0 ≤ sumTo wy k ∧ sumTo wy k ≤ wyT r sm := fun k hk => by
      have m1 := sumTo_mono (f := wy) (n := k) (m := 6) hk (fun i i0 i1 => wy0 i i0 (by omega))
      have m0 := sumTo_mono (f := wy) (n := 0) (m := k) (by omega) (fun i i0 i1 => wy0 i i0 (by omega))
      exact ⟨m0, m1⟩
    refine ⟨ar83 hS1 (Or.inr (Or.inr (Or.inl rfl))), fun M16 e16 hS16 => ⟨ar83 hS16 (Or.inr (Or.inr (Or.inr rfl))), fun M20 e20 hS20 => ?_⟩⟩
    obtain ⟨c16, z16⟩ := e16
    obtain ⟨c20, z20⟩ := e20
    have f20 : Fr KWr M M20 := (f1.tr (Fr.ch c16 (fun j _ _ => by unfold KWr; omega))).tr (Fr.ch c20 (fun j _ _ => by unfold KWr; omega))
    have e85 : rd M20 85 = rd M16 85 := funext fun j => c20.2.2 _ _ (by omega)
    have key : ∀ n k : Nat, k + n = 6 → ∀ (Mk : MM) (x2 : Int), Fr KWr M Mk → Sh Mk → nrm (rd Mk 85) 0 14 → vl (rd Mk 85) 0 14 = sumTo wy k → (many < k → nrm (rd Mk 86) 0 14 ∧ vl (rd Mk 86) 0 14 = wy many) → (x2 = 0 ∨ x2 = 1) → (x2 = 0 ↔ sumTo wy k = 0) → X G Y_X12_were d 0 0 49 [vA 67, vI many, vI x2, vI k, vU] [] Mk Q := by
      intro n
      induction n with
      | zero =>
        intro k hk Mk x2 fk hSk nk vk ok hx hx0
        have k6 : k = 6 := by omega
        subst k6
        have vk' : vl (rd Mk 85) 0 14 = wyT r sm := vk
        have hx0' : x2 = 0 ↔ wyT r sm = 0 := hx0
        obtain ⟨nm, vm⟩ := ok (by omega)
        refine B_X12_were_49 (by omega) hSk ⟨⟨by omega, by omega⟩, fun _ => ⟨⟨by omega, by omega⟩, fun w => ?_, fun w => ?_⟩, fun q => by omega⟩
        · have := hfin Mk fk hSk
          unfold weV at this
          rw [if_pos (hx0'.mp w)] at this
          exact this
        · have hne' : wyT r sm ≠ 0 := fun y => w (hx0'.mpr y)
          refine T_X12_ratio hSk nm vm nk vk' ⟨by omega, hwT.2.1⟩ (hwT.2.2 many hmm.1 hmm.2) (by omega) (fun M3 f3 hS3 => ?_)
          show Sh M3 ∧ _
          have := hfin M3 (fk.tr (f3.mono (fun a j y => by unfold KWr KLk KPs; omega))) hS3
          unfold weV at this
          rw [if_neg hne'] at this
          exact ⟨hS3, this⟩
      | succ n ih =>
        intro k hk Mk x2 fk hSk nk vk ok hx hx0
        have ws := wyS k (by omega)
        have ws1 := wyS (k + 1) (by omega)
        have wk := wyG_ok (r := r) (sm := sm) (r 4).toNat 0 (z := k) (by omega) (by omega)
        refine B_X12_were_49 (by omega) hSk ⟨⟨by omega, by omega⟩, fun q => by omega, fun _ => ?_⟩
        refine T_X12_liken hSk (hMk Mk fk) (e69 Mk fk) hne ⟨by omega, by omega⟩ (by omega) (fun M5 f5 hS5 n5 v5 => ?_)
        show Sh M5 ∧ _
        have y85 : rd M5 85 = rd Mk 85 := funext fun j => f5.2.2 _ _ (by unfold KLk KPs KA; omega)
        have y86 : rd M5 86 = rd Mk 86 := funext fun j => f5.2.2 _ _ (by unfold KLk KPs KA; omega)
        rw [y85, vk, v5]
        refine ⟨hS5, ar83 hS5 (Or.inr (Or.inr (Or.inl rfl))), ar83 hS5 (Or.inl rfl), by decide, nk, n5, ⟨by decide, by decide⟩, ?_, fun M13 e13 hS13 => ?_⟩
        · have e : sumTo wy (k + 1) = sumTo wy k + wyG r sm (r 4).toNat 0 k := rfl
          omega
        obtain ⟨c13, n13, v13⟩ := e13
        rw [Int.mul_one] at v13
        have z83 : rd M13 83 = rd M5 83 := funext fun j => c13.2.2 _ _ (by omega)
        have z86 : rd M13 86 = rd Mk 86 := by rw [← y86]; exact funext fun j => c13.2.2 _ _ (by omega)
        have f13 : Fr KWr M M13 := (fk.tr (f5.mono (fun a j y => Or.inl y))).tr (Fr.ch c13 (fun j _ _ => by unfold KWr; omega))
        have v83 : vl (rd M13 83) 0 14 = wy k := by rw [z83]; exact v5
        have n83 : nrm (rd M13 83) 0 14 := by rw [z83]; exact n5
        have loop : ∀ m2 j : Nat, j + m2 = 14 → ∀ (Ma : MM) (y2 : Int), Fr (fun a _ => a = 86) M13 Ma → Sh Ma → (∀ i : Int, 0 ≤ i → i < 14 → rd Ma 86 i = if (k : Int) = many ∧ i < j then rd M13 83 i else rd M13 86 i) → (y2 = 0 ∨ y2 = 1) → (y2 = 0 ↔ (sumTo wy k = 0 ∧ ∀ i : Int, 0 ≤ i → i < j → rd M13 83 i = 0)) → X G Y_X12_were d 0 0 77 [vA 67, vI many, vI y2, vI k, vI j] [] Ma Q := by
          intro m2
          induction m2 with
          | zero =>
            intro j hj Ma y2 fa hSa h86 hy hy0
            have j14 : j = 14 := by omega
            subst j14
            have w85 : rd Ma 85 = rd M13 85 := funext fun i => fa.2.2 _ _ (by show ¬ ((85 : Int) = 86); decide)
            refine B_X12_were_77 (by omega) hSa ⟨⟨by omega, by omega⟩, fun _ => ?_, fun q => by omega⟩
            refine ih (k + 1) (by omega) Ma y2 (f13.tr (fa.mono (fun a i y => by unfold KWr; omega))) hSa (by rw [w85]; exact n13) (by rw [w85, v13]; rfl) (fun hmk => ?_) hy ?_
            · by_cases w : (k : Int) = many
              · refine ⟨fun i i0 i1 => ?_, ?_⟩
                · rw [Int.zero_add, h86 i i0 i1, if_pos ⟨w, by omega⟩]
                  have := n83 i i0 i1
                  rw [Int.zero_add] at this
                  exact this
                · rw [vl_congr (g := rd M13 83) (b := 0) (fun i i0 i1 => by rw [Int.zero_add, h86 i i0 i1, if_pos ⟨w, by omega⟩]), v83, w]
              · obtain ⟨o1, o2⟩ := ok (by omega)
                have e : ∀ i : Int, 0 ≤ i → i < 14 → rd Ma 86 (0 + i) = rd Mk 86 (0 + i) := fun i i0 i1 => by rw [Int.zero_add, h86 i i0 i1, if_neg (fun y => w y.1), z86]
                exact ⟨fun i i0 i1 => by rw [e i i0 i1]; exact o1 i i0 i1, by rw [vl_congr e]; exact o2⟩
            · rw [hy0, sumTo]
              have hz : (∀ i : Int, 0 ≤ i → i < ((14 : Nat) : Int) → rd M13 83 i = 0) ↔ wy k = 0 := by
                constructor
                · intro y
                  rw [← v83]
                  exact vl_zero (fun i i0 i1 => by rw [Int.zero_add]; exact y i i0 i1)
                · intro y i i0 i1
                  have := vl_inj (f := rd M13 83) (g := fun _ => 0) (a := 0) (b := 0) (n := 14) n83 (fun _ _ _ => ⟨by show (0 : Int) ≤ 0; decide, by show (0 : Int) < 100000000; decide⟩) (by rw [v83, y, vl_zero (fun _ _ _ => rfl)]) i i0 i1
                  rw [Int.zero_add] at this
                  exact this
              have wk0 := wy0 k (by omega) (by omega)
              constructor
              · rintro ⟨y1, y2⟩
                have := hz.mp y2
                omega
              · intro y
                exact ⟨by omega, hz.mpr (by omega)⟩
          | succ m2 ihm =>
            intro j hj Ma y2 fa hSa h86 hy hy0
            have w83 : ∀ i, rd Ma 83 i = rd M13 83 i := fun i => fa.2.2 _ _ (by show ¬ ((83 : Int) = 86); decide)
            have bL := n83 j (by omega) (by omega)
            rw [Int.zero_add] at bL
            -- the write
            have wr86 : ∀ (M8 : MM) (y3 : Int), ((k : Int) ≠ many → M8 = wr Ma 86 j (rd Ma 86 j)) → ((k : Int) = many → M8 = wr Ma 86 j (rd Ma 83 j)) → Sh M8 → (y3 = 0 ∨ y3 = 1) → (y3 = 0 ↔ (y2 = 0 ∧ rd M13 83 j = 0)) → X G Y_X12_were d 0 0 77 [vA 67, vI many, vI y3, vI k, vI ((j : Int) + 1)] [] M8 Q := by
              intro M8 y3 ea eb hS8 hy3 hy30
              have f8 : Fr (fun a _ => a = 86) M13 M8 := by
                by_cases w : (k : Int) = many
                · rw [eb w]; exact fa.wr rfl
                · rw [ea w]; exact fa.wr rfl
              refine ihm (j + 1) (by omega) M8 y3 f8 hS8 (fun i i0 i1 => ?_) hy3 ?_
              · by_cases w : (k : Int) = many
                · rw [eb w, rd_wr]
                  by_cases w2 : i = j
                  · rw [if_pos ⟨rfl, w2⟩, if_pos ⟨w, by omega⟩, w83, w2]
                  · rw [if_neg (fun y => w2 y.2), h86 i i0 i1]
                    by_cases w3 : i < j
                    · rw [if_pos ⟨w, w3⟩, if_pos ⟨w, by omega⟩]
                    · rw [if_neg (fun y => w3 y.2), if_neg (fun y => by have := y.2; omega)]
                · rw [ea w, rd_wr]
                  by_cases w2 : i = j
                  · rw [if_pos ⟨rfl, w2⟩, if_neg (fun y => w y.1), ← w2, h86 i i0 i1, if_neg (fun y => w y.1)]
                  · rw [if_neg (fun y => w2 y.2), h86 i i0 i1, if_neg (fun y => w y.1), if_neg (fun y => w y.1)]
              · rw [hy30, hy0]
                constructor
                · rintro ⟨⟨y1, y4⟩, y5⟩
                  refine ⟨y1, fun i i0 i1 => ?_⟩
                  by_cases w : i = j
                  · rw [w]; exact y5
                  · exact y4 i i0 (by omega)
                · rintro ⟨y1, y4⟩
                  exact ⟨⟨y1, fun i i0 i1 => y4 i i0 (by omega)⟩, y4 j (by omega) (by omega)⟩
            have k100 : (y2 ≠ 0 ∨ rd M13 83 j ≠ 0) → X G Y_X12_were d 0 0 100 [vA 67, vI many, vI y2, vI k, vI j] [] Ma Q := by
              intro hy4
              refine B_X12_were_100 (by omega) hSa ⟨⟨by omega, by omega⟩, hm, fun w => ⟨by omega, by omega, fun M5 e5 hS5 => wr86 M5 1 (fun _ => e5) (fun y => absurd y w) hS5 (Or.inr rfl) ?_⟩, fun w => ⟨by omega, by omega, fun M8 e8 hS8 => wr86 M8 1 (fun y => absurd w y) (fun _ => e8) hS8 (Or.inr rfl) ?_⟩⟩
              · exact ⟨fun y => absurd y (by decide), fun y => by rcases hy4 with z | z; exact absurd y.1 z; exact absurd y.2 z⟩
              · exact ⟨fun y => absurd y (by decide), fun y => by rcases hy4 with z | z; exact absurd y.1 z; exact absurd y.2 z⟩
            refine B_X12_were_77 (by omega) hSa ?_
            rw [w83]
            refine ⟨⟨by omega, by omega⟩, fun q => by omega, fun _ => ⟨⟨by omega, by omega⟩, fun w => k100 (Or.inl w), fun w => ⟨by omega, by omega, ⟨by omega, by omega⟩, fun w2 => ⟨⟨by omega, by omega⟩, hm, fun w3 M8 e8 hS8 => wr86 M8 0 (fun _ => e8) (fun y => absurd y w3) hS8 (Or.inl rfl) ⟨fun _ => ⟨w, w2⟩, fun _ => rfl⟩, fun w3 M9 e9 hS9 => wr86 M9 0 (fun y => absurd w3 y) (fun _ => by rw [w83]; exact e9) hS9 (Or.inl rfl) ⟨fun _ => ⟨w, w2⟩, fun _ => rfl⟩⟩, fun w2 => k100 (Or.inr w2)⟩⟩⟩
        refine loop 14 0 rfl M13 x2 Fr.rf hS13 (fun i i0 i1 => by rw [if_neg (by omega)]) hx ?_
        rw [hx0]
        exact ⟨fun y => ⟨y, fun i i0 i1 => by omega⟩, fun y => y.1⟩
    exact key 6 0 rfl M20 0 f20 hS20 (by rw [e85]; exact nrm0 z16) (by rw [e85, vl_zero z16]; rfl) (fun y => by omega) (Or.inl rfl) ⟨fun _ => rfl, fun _ => rfl⟩
end WM
