/-! ===== who stays: the class's expectation ===== -/
def KX (t a j : Int) : Prop := a = t + 3 ∨ a = t + 4 ∨ a = t + 5 ∨ a = t + 6
theorem Ar.frm {K : Int → Int → Prop} {M M' : MM} {a at' : Int} {n : Nat} (h : Ar M a at' n) (f : Fr K M M') : Ar M' a at' n := by
  unfold Ar; rw [f.1, f.2.1]; exact h
theorem sumTo_s {f : Int → Int} {a : Int} (h : 0 ≤ a) : sumTo f (a + 1).toNat = sumTo f a.toNat + f a := by
  rw [show (a + 1).toNat = a.toNat + 1 by omega, sumTo, Int.toNat_of_nonneg h]
section EX
variable {G : GG} {d : Nat} {M : MM} {Q : PV → MM → Prop}
theorem ar5 {t j : Int} (ht : t = 32 ∨ t = 44) (hS : Sh M) (hj : j = 5 ∨ j = 6) : Ar M (t + j) 0 6 := by
  rcases hj with rfl | rfl
  · have q := sOt_5 ht hS
    exact ⟨q.1, q.2.1, q.2.2, by decide, by rw [sLt_5 ht hS]; decide, by rw [sLt_5 ht hS]; decide⟩
  · have q := sOt_6 ht hS
    exact ⟨q.1, q.2.1, q.2.2, by decide, by rw [sLt_6 ht hS]; decide, by rw [sLt_6 ht hS]; decide⟩
theorem T_X9_expect {t p l z o w c0 c1 S0 lim at' : Int} {U : Int → Int → Int} (ht : t = 32 ∨ t = 44) (hS : Sh M) (hp : 0 ≤ p ∧ p < 32) (hpp : 1 ≤ pop p) (hl : 0 ≤ l ∧ l < 5) (hz : 0 ≤ z ∧ z < 6) (ho : 0 ≤ o ∧ o < 6)
    (ew0 : iAnd w 127 = c0) (ew1 : iAnd (iShr w 8) 127 = c1) (hc0 : 0 ≤ c0 ∧ c0 ≤ 100) (hc1 : 0 ≤ c1 ∧ c1 ≤ 100) (nS : nrm (rd M (t + 3)) 0 14) (vS : vl (rd M (t + 3)) 0 14 = S0)
    (eL : limF (pop p).toNat = lim) (eA : rd M 27 (((p * 5) + l) + 1) = at') (hat : 0 ≤ at' ∧ at' + 36 * lim ≤ (mT M (t + 1)).2)
    (hU : ∀ a b : Int, 0 ≤ a → a ≤ z → 0 ≤ b → b ≤ o → stv z c0 a ≠ 0 → stv o c1 b ≠ 0 → nrm (rd M (t + 1)) (at' + (((a * 6) + b) * lim)) lim.toNat ∧ vl (rd M (t + 1)) (at' + (((a * 6) + b) * lim)) lim.toNat = U a b)
    (hlt : S0 + expc U z o c0 c1 < Bp 14) (hd : 2 ≤ d)
    (h : ∀ M', Fr (KX t) M M' → Sh M' → nrm (rd M' (t + 3)) 0 14 → vl (rd M' (t + 3)) 0 14 = S0 + expc U z o c0 c1 → Q vU M') :
    C G Y_X9_expect d 0 0 [vA t, vI p, vI l, vI z, vI o, vI w] M Q := by
  have hq := pop_le hp.1 hp.2
  have hL : 1 ≤ lim ∧ lim ≤ 11 := by rw [← eL]; exact limF_ok hpp hq.2
  have hsz : (mT M (t + 1)).2 < 2147483648 := by rw [sLt_1 ht hS]; decide
  have st0 : ∀ k : Int, 0 ≤ k → k ≤ z → 0 ≤ stv z c0 k ∧ stv z c0 k ≤ 10000000000 := fun k k0 k1 => stv_ok hz.1 hz.2 hc0.1 (by omega) k0 (by omega)
  have st1 : ∀ k : Int, 0 ≤ k → k ≤ o → 0 ≤ stv o c1 k ∧ stv o c1 k ≤ 10000000000 := fun k k0 k1 => stv_ok ho.1 ho.2 hc1.1 (by omega) k0 (by omega)
  have su0 := stv_sum hz.1 hz.2 hc0.1 (show c0 < 101 by omega)
  have su1 := stv_sum ho.1 ho.2 hc1.1 (show c1 < 101 by omega)
  have i0 : (if (0 : Int) ≠ 0 then (iShr w 8) else w) = w := if_neg (by decide)
  have i1 : (if (1 : Int) ≠ 0 then (iShr w 8) else w) = iShr w 8 := if_pos (by decide)
  have hBL := Bp_pos lim.toNat
  have hB2 : Bp (lim + 2).toNat = Bp lim.toNat * 10000000000000000 := by
    rw [show (lim + 2).toNat = lim.toNat + 1 + 1 by omega, Bp_s, Bp_s, Int.mul_assoc]; rfl
  have hB14 : Bp (lim + 2).toNat ≤ Bp 14 := Bp_mono (by omega)
  refine C_X9_expect (B_X9_expect_0 hd ht hS ?_)
  rw [i0, i1, ew0, ew1]
  refine ⟨hp.1, hp.2, hq.1, by omega, fun v5 e5 => ⟨⟨by omega, by omega⟩, fun v7 e7 => ⟨by omega, by omega, fun v10 e10 => ⟨ar5 ht hS (Or.inl rfl), hz, hc0, fun M14 e14 s14 => ⟨ar5 ht s14 (Or.inr rfl), ho, hc1, fun M20 e20 s20 => ?_⟩⟩⟩⟩⟩
  obtain ⟨c14, q14⟩ := e14
  obtain ⟨c20, q20⟩ := e20
  have e5' : v5 = lim := by rw [e5]; exact eL
  have e7' : v7 = lim + 2 := by rw [e7, if_neg (by omega)]; omega
  have e10' : v10 = at' := by rw [e10]; exact eA
  rw [e5', e7', e10']
  have outer : ∀ m : Nat, ∀ a : Int, a + m = z + 1 → 0 ≤ a → ∀ Ma, Sh Ma → Fr (KX t) M Ma → (∀ k : Int, 0 ≤ k → k ≤ z → rd Ma (t + 5) k = stv z c0 k) → (∀ k : Int, 0 ≤ k → k ≤ o → rd Ma (t + 6) k = stv o c1 k) →
      (∀ i : Int, 0 ≤ i → i < 14 → 0 ≤ rd Ma (t + 3) i ∧ rd Ma (t + 3) i ≤ 100000000 + 100000000 * sumTo (fun k => stv z c0 k) a.toNat) →
      vl (rd Ma (t + 3)) 0 14 = S0 + sumTo (fun a => stv z c0 a * sumTo (fun b => stv o c1 b * U a b) (o.toNat + 1)) a.toNat →
      X G Y_X9_expect d 0 0 68 [vA t, vI p, vI l, vI z, vI o, vI w, vI lim, vI (lim + 2), vI at', vI a, vU] [] Ma Q := by
    intro m
    induction m with
    | zero =>
      intro a ea a0 Ma hSa fa p0 p1 lb va
      have ez : a.toNat = z.toNat + 1 := by omega
      rw [ez] at va lb
      refine B_X9_expect_68 hd ht hSa ⟨⟨by omega, by omega⟩, ⟨by omega, by omega⟩, fun _ => ⟨arT ht hSa (Or.inl rfl), fun i i0 i1 => ?_, ?_, fun M6 e6 s6 => ?_⟩, fun y => by omega⟩
      · have := lb i i0 i1
        rw [su0] at this
        omega
      · rw [va]; exact hlt
      · exact h M6 (fa.tr (Fr.ch e6.1 (fun j _ _ => Or.inl rfl))) s6 e6.2.1 (by rw [e6.2.2, va]; rfl)
    | succ m ih =>
      intro a ea a0 Ma hSa fa p0 p1 lb va
      have ha := p0 a a0 (by omega)
      have sa := st0 a a0 (by omega)
      refine B_X9_expect_68 hd ht hSa ⟨⟨by omega, by omega⟩, ⟨by omega, by omega⟩, fun y => by omega, fun _ => ⟨a0, by omega, ⟨by omega, by omega⟩, fun ne => ?_, fun eq => ?_⟩⟩
      · rw [ha] at ne
        refine ⟨⟨sOt_4 ht hSa, by rw [sLt_4 ht hSa]; decide, by rw [sLt_4 ht hSa]; decide⟩, fun M13 e13 s13 => ?_⟩
        obtain ⟨len, el, c13, z13⟩ := e13
        have el' : len = 14 := by rw [← el]; exact sLt_4 ht hSa
        rw [el'] at c13 z13
        have inner : ∀ m' : Nat, ∀ b : Int, b + m' = o + 1 → 0 ≤ b → ∀ Mb, Sh Mb → Fr (KX t) M Mb → (∀ k : Int, 0 ≤ k → k ≤ z → rd Mb (t + 5) k = stv z c0 k) → (∀ k : Int, 0 ≤ k → k ≤ o → rd Mb (t + 6) k = stv o c1 k) →
            (rd Mb (t + 3) = rd Ma (t + 3)) →
            (∀ i : Int, 0 ≤ i → i < 14 → 0 ≤ rd Mb (t + 4) i ∧ rd Mb (t + 4) i ≤ 100000000 * sumTo (fun k => stv o c1 k) b.toNat) →
            vl (rd Mb (t + 4)) 0 14 = sumTo (fun b => stv o c1 b * U a b) b.toNat →
            (0 ≤ sumTo (fun b => stv o c1 b * U a b) b.toNat ∧ sumTo (fun b => stv o c1 b * U a b) b.toNat ≤ Bp lim.toNat * sumTo (fun k => stv o c1 k) b.toNat) →
            X G Y_X9_expect d 0 0 100 [vA t, vI p, vI l, vI z, vI o, vI w, vI lim, vI (lim + 2), vI at', vI a, vI b] [] Mb Q := by
          intro m'
          induction m' with
          | zero =>
            intro b eb b0 Mb hSb fb u0 u1 e3 lbb vb bb
            have ez : b.toNat = o.toNat + 1 := by omega
            rw [ez] at vb lbb bb
            rw [su1] at bb
            have hPl : sumTo (fun b => stv o c1 b * U a b) (o.toNat + 1) < Bp (lim + 2).toNat := by rw [hB2]; omega
            refine B_X9_expect_100 hd ht hSb ⟨⟨by omega, by omega⟩, ⟨by omega, by omega⟩, fun _ => ⟨arT ht hSb (Or.inr rfl), fun i i0 i1 => ?_, by rw [vb]; omega, fun M6 e6 s6 => ?_⟩, fun y => by omega⟩
            · have := lbb i i0 i1
              rw [su1] at this
              omega
            · obtain ⟨c6, n6, w6⟩ := e6
              have A3 := arT ht s6 (Or.inl rfl)
              have A4 := arT ht s6 (Or.inr rfl)
              refine ⟨a0, by omega, ⟨by omega, by omega⟩, ⟨A3.1, A3.2.1, A3.2.2.1, by decide, by have := A3.2.2.2.2.1; omega, A3.2.2.2.2.2⟩, ⟨A4.1, A4.2.1, A4.2.2.1, by decide, by have := A4.2.2.2.2.1; omega, A4.2.2.2.2.2⟩, by omega, fun M15 e15 s15 => ?_⟩
              obtain ⟨c15, q15⟩ := e15
              have f6 : Fr (KX t) M M6 := fb.tr (Fr.ch c6 (fun j _ _ => Or.inr (Or.inl rfl)))
              have f15 : Fr (KX t) M M15 := f6.tr (Fr.ch c15 (fun j _ _ => Or.inl rfl))
              have e36 : rd M6 (t + 3) = rd Ma (t + 3) := by rw [← e3]; exact funext fun j => c6.2.2 _ _ (by omega)
              have e5a : rd M6 (t + 5) a = stv z c0 a := by rw [c6.2.2 _ _ (by omega)]; exact u0 a a0 (by omega)
              rw [vb] at w6
              have hi := nrm_high (n := (lim + 2).toNat) (m := 14) (by omega) n6 (by rw [w6]; exact hPl)
              have w6' : vl (rd M6 (t + 4)) 0 (lim + 2).toNat = sumTo (fun b => stv o c1 b * U a b) (o.toNat + 1) := by
                rw [← w6]; exact (vl_ext (by omega) hi).symm
              have q15' : ∀ i : Int, 0 ≤ i → i < lim + 2 → rd M15 (t + 3) i = rd Ma (t + 3) i + rd M6 (t + 4) i * stv z c0 a := fun i i0 i1 => by
                rw [q15 i i0 i1, e36, e5a, Int.zero_add]
              have q15'' : ∀ i : Int, lim + 2 ≤ i → rd M15 (t + 3) i = rd Ma (t + 3) i := fun i i0 => by
                rw [c15.2.2 _ _ (by omega), e36]
              refine ih (a + 1) (by omega) (by omega) M15 s15 f15 (fun k k0 k1 => by rw [c15.2.2 _ _ (by omega), c6.2.2 _ _ (by omega)]; exact u0 k k0 k1) (fun k k0 k1 => by rw [c15.2.2 _ _ (by omega), c6.2.2 _ _ (by omega)]; exact u1 k k0 k1) (fun i i0 i1 => ?_) ?_
              · have h1 := lb i i0 i1
                rw [sumTo_s a0]
                by_cases y : i < lim + 2
                · rw [q15' i i0 y]
                  have h2 := n6 i i0 i1
                  rw [Int.zero_add] at h2
                  have h3 := mul_le h2.1 (show rd M6 (t + 4) i ≤ 100000000 by omega) sa.1 (Int.le_refl (stv z c0 a))
                  omega
                · rw [q15'' i (by omega)]
                  omega
              · rw [sumTo_s a0, vl_lin2 (g := rd Ma (t + 3)) (h := rd M6 (t + 4)) (e := 0) (c := stv z c0 a) (k := (lim + 2).toNat) (n := 14) (by omega) (fun i i0 i1 => by rw [Int.zero_add]; exact q15' i i0 (by omega)) (fun i i0 i1 => by rw [Int.zero_add]; exact q15'' i (by omega)), va, w6', Int.mul_comm (sumTo _ _) (stv z c0 a), Int.add_assoc]
          | succ m' ihb =>
            intro b eb b0 Mb hSb fb u0 u1 e3 lbb vb bb
            have hb := u1 b b0 (by omega)
            have sb' := st1 b b0 (by omega)
            refine B_X9_expect_100 hd ht hSb ⟨⟨by omega, by omega⟩, ⟨by omega, by omega⟩, fun y => by omega, fun _ => ⟨b0, by omega, ⟨by omega, by omega⟩, fun eq => ?_, fun neb => ?_⟩⟩
            · rw [hb] at eq
              refine ihb (b + 1) (by omega) (by omega) Mb hSb fb u0 u1 e3 (fun i i0 i1 => ?_) ?_ ?_
              · rw [sumTo_s b0, eq, Int.add_zero]; exact lbb i i0 i1
              · rw [sumTo_s b0, eq, Int.zero_mul, Int.add_zero]; exact vb
              · rw [sumTo_s b0, sumTo_s b0, eq, Int.zero_mul, Int.add_zero, Int.add_zero]; exact bb
            · rw [hb] at neb
              obtain ⟨nU, vU'⟩ := hU a b a0 (by omega) b0 (by omega) ne neb
              have A4 := arT ht hSb (Or.inr rfl)
              have O1 := sOt_1 ht hSb
              have m1 : 0 ≤ ((a * 6) + b) * lim ∧ ((a * 6) + b) * lim ≤ 35 * lim := mul_le (by omega) (by omega) (by omega) (Int.le_refl lim)
              have bU := vl_lt nU
              rw [vU'] at bU
              refine ⟨⟨by omega, by omega⟩, ⟨A4.1, A4.2.1, A4.2.2.1, by decide, by have := A4.2.2.2.2.1; omega, A4.2.2.2.2.2⟩, ⟨O1.1, O1.2.1, O1.2.2, by omega, by rw [fb.2.1]; omega, by rw [fb.2.1]; exact hsz⟩, by omega, fun M25 e25 s25 => ?_⟩
              obtain ⟨c25, q25⟩ := e25
              have e1 : rd Mb (t + 1) = rd M (t + 1) := funext fun j => fb.2.2 _ _ (by unfold KX; omega)
              have q25' : ∀ i : Int, 0 ≤ i → i < lim → rd M25 (t + 4) i = rd Mb (t + 4) i + rd M (t + 1) ((at' + (((a * 6) + b) * lim)) + i) * stv o c1 b := fun i i0 i1 => by
                rw [q25 i i0 i1, e1, hb]
              have q25'' : ∀ i : Int, lim ≤ i → rd M25 (t + 4) i = rd Mb (t + 4) i := fun i i0 => c25.2.2 _ _ (by omega)
              refine ihb (b + 1) (by omega) (by omega) M25 s25 (fb.tr (Fr.ch c25 (fun j _ _ => Or.inr (Or.inl rfl)))) (fun k k0 k1 => by rw [c25.2.2 _ _ (by omega)]; exact u0 k k0 k1) (fun k k0 k1 => by rw [c25.2.2 _ _ (by omega)]; exact u1 k k0 k1) (by rw [← e3]; exact funext fun j => c25.2.2 _ _ (by omega)) (fun i i0 i1 => ?_) ?_ ?_
              · have h1 := lbb i i0 i1
                rw [sumTo_s b0]
                by_cases y : i < lim
                · rw [q25' i i0 y]
                  have h2 := nU i i0 (by omega)
                  have h3 := mul_le h2.1 (show rd M (t + 1) ((at' + (((a * 6) + b) * lim)) + i) ≤ 100000000 by omega) sb'.1 (Int.le_refl (stv o c1 b))
                  omega
                · rw [q25'' i (by omega)]
                  omega
              · rw [sumTo_s b0, vl_lin2 (g := rd Mb (t + 4)) (h := rd M (t + 1)) (e := at' + (((a * 6) + b) * lim)) (c := stv o c1 b) (k := lim.toNat) (n := 14) (by omega) (fun i i0 i1 => by rw [Int.zero_add]; exact q25' i i0 (by omega)) (fun i i0 i1 => by rw [Int.zero_add]; exact q25'' i (by omega)), vb, vU', Int.mul_comm (U a b) (stv o c1 b)]
              · rw [sumTo_s b0, sumTo_s b0, Int.mul_add]
                have h3 := mul_le sb'.1 (Int.le_refl (stv o c1 b)) bU.1 (show U a b ≤ Bp lim.toNat by omega)
                rw [Int.mul_comm (stv o c1 b) (Bp lim.toNat)] at h3
                omega
        refine inner (o.toNat + 1) 0 (by omega) (by omega) M13 s13 (fa.tr (Fr.ch c13 (fun j _ _ => Or.inr (Or.inl rfl)))) (fun k k0 k1 => by rw [c13.2.2 _ _ (by omega)]; exact p0 k k0 k1) (fun k k0 k1 => by rw [c13.2.2 _ _ (by omega)]; exact p1 k k0 k1) (funext fun j => c13.2.2 _ _ (by omega)) (fun i i0 i1 => by rw [z13 i i0 i1]; exact ⟨Int.le_refl 0, Int.le_of_eq (Int.mul_zero _).symm⟩) ?_ ⟨Int.le_refl 0, by exact Int.le_of_eq (Int.mul_zero _).symm⟩
        exact vl_zero (fun i i0 i1 => by rw [Int.zero_add]; exact z13 i i0 i1)
      · rw [ha] at eq
        refine ih (a + 1) (by omega) (by omega) Ma hSa fa p0 p1 (fun i i0 i1 => ?_) ?_
        · rw [sumTo_s a0, eq, Int.add_zero]; exact lb i i0 i1
        · rw [sumTo_s a0, eq, Int.zero_mul, Int.add_zero]; exact va
  have s3 : rd M20 (t + 3) = rd M (t + 3) := funext fun j => by rw [c20.2.2 _ _ (by omega), c14.2.2 _ _ (by omega)]
  refine outer (z.toNat + 1) 0 (by omega) (by omega) M20 s20 ((Fr.ch c14 (fun j _ _ => Or.inr (Or.inr (Or.inl rfl)))).tr (Fr.ch c20 (fun j _ _ => Or.inr (Or.inr (Or.inr rfl))))) (fun k k0 k1 => by rw [c20.2.2 _ _ (by omega)]; exact q14 k k0 k1) (fun k k0 k1 => q20 k k0 k1) (fun i i0 i1 => ?_) ?_
  · rw [s3]
    have := nS i i0 i1
    rw [Int.zero_add] at this
    exact ⟨this.1, by show _ ≤ 100000000 + 100000000 * 0; omega⟩
  · rw [s3, vS]; exact (Int.add_zero S0).symm
end EX
