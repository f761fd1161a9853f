/-- the place of a state in the model's table -/
def sta (p l z o : Int) : Int := ((((((p * 6) + l) + 1) * 6) + z) * 6) + o
def KE (a j : Int) : Prop := KA a j ∨ a = 83 ∨ a = 84 ∨ a = 87
theorem sumTo_mono {f : Int → Int} : ∀ {n m : Nat}, n ≤ m → (∀ i : Int, 0 ≤ i → i < m → 0 ≤ f i) → sumTo f n ≤ sumTo f m
  | n, 0, h, _ => by have : n = 0 := by omega
                     subst this; exact Int.le_refl _
  | n, m + 1, h, hf => by
    by_cases q : n = m + 1
    · subst q; exact Int.le_refl _
    · have h1 := sumTo_mono (n := n) (m := m) (by omega) (fun i i0 i1 => hf i i0 (by omega))
      have h2 := hf m (by omega) (by omega)
      rw [sumTo]; omega
theorem bnd_lt {q : Int} (h0 : 0 ≤ q) (h1 : q ≤ 5) : 0 ≤ bnd q ∧ bnd q < Bp 14 ∧ (1 ≤ q → 10000000000 * bnd q < Bp 14) := by
  have : q = 0 ∨ q = 1 ∨ q = 2 ∨ q = 3 ∨ q = 4 ∨ q = 5 := by omega
  rcases this with rfl | rfl | rfl | rfl | rfl | rfl <;> decide +kernel
theorem nrm0 {f : Int → Int} {a : Int} {n : Nat} (h : ∀ i : Int, 0 ≤ i → i < n → f (a + i) = 0) : nrm f a n := fun i i0 i1 => by rw [h i i0 i1]; exact ⟨by decide, by decide⟩
section SC
variable {G : GG} {d : Nat} {M : MM} {Q : PV → MM → Prop} {sm : Int → LSm}
theorem T_X12_reckonScene {goal g s p l z o : Int} {U : Int → Int → Int} (hS : Sh M) (hM : MOK M sm) (hr : rngS s p l z o) (hg : 0 ≤ goal ∧ goal ≤ 8 ∧ -1 ≤ rd M 67 39 ∧ rd M 67 39 ≤ 1 ∧ (rd M 67 39 ≠ -1 → goal = 8)) (eg : gl goal (rd M 67 39) = g) (hb : bt p s = 0)
    (hT : rd M 69 (12 + 3 * s) ≠ 1 → ∀ a b : Int, 0 ≤ a → a ≤ z → 0 ≤ b → b ≤ o → nrm (rd M 81) (14 * sta (sb p s) s a b) 14 ∧ vl (rd M 81) (14 * sta (sb p s) s a b) 14 = U a b ∧ 0 ≤ U a b ∧ U a b ≤ bnd (pop p + 1)) (hd : 7 ≤ d)
    (h : ∀ M', Fr KE M M' → Sh M' → nrm (rd M' 83) 0 14 → vl (rd M' 83) 0 14 = brg (rd M 69) sm g s p l z o * sc (pop p) + (if rd M 69 (12 + 3 * s) = 1 then 0 else expc U z o (chn (rd M 69) sm 0 s p l z o) (chn (rd M 69) sm 1 s p l z o)) → Q vU M') :
    C G Y_X12_reckonScene d 0 0 [vA 67, vI goal, vI s, vI p, vI l, vI z, vI o] M Q := by
  have hr' := hr
  obtain ⟨hs, hp, hl, hz, ho⟩ := hr'
  have hg8 : 0 ≤ g := by rw [← eg]; unfold gl; split <;> omega
  have hq := pop_le hp.1 hp.2
  have hq5 := pop5 hp hs hb
  have hbr := @brg_ok (rd M 69) sm g s p l z o hM.1 hg8 hs hz ho
  have hsl := sb_lt hp.1 hp.2 hs.1 hs.2
  have hb0 := bnd_lt hq.1 hq.2
  have hb1 := bnd_lt (q := pop p + 1) (by omega) (by omega)
  have hsp := sc_pos (pop p)
  have hsc := hM.1.2.2.1 s hs.1 hs.2
  have e12 : (10 : Int) + 3 * s + 2 = 12 + 3 * s := by omega
  have ebnd : bnd (pop p) = 58500 * sc (pop p) + 100000000000000000000 * bnd (pop p + 1) := by
    unfold bnd; rw [sc_s hq.1 hq5]; grind
  have mbr : 0 ≤ brg (rd M 69) sm g s p l z o * sc (pop p) := Int.mul_nonneg hbr.1 (by omega)
  have mbr2 : brg (rd M 69) sm g s p l z o * sc (pop p) ≤ 58500 * sc (pop p) := Int.mul_le_mul_of_nonneg_right hbr.2 (by omega)
  refine C_X12_reckonScene (B_X12_reckonScene_0 (sm := sm) hd hS ⟨hS.Ar 83 14 rfl (by decide) (by decide), fun M2 ⟨c2, z2⟩ hS2 => ?_⟩)
  have f2 : Fr KE M M2 := Fr.ch c2 (fun j _ _ => Or.inr (Or.inl rfl))
  have hM2 := hM.fr f2 (fun j q => by unfold KE KA at q; omega)
  have e39 : rd M2 67 39 = rd M 67 39 := c2.2.2 _ _ (by omega)
  have e69 : rd M2 69 = rd M 69 := funext fun j => c2.2.2 _ _ (by omega)
  refine ⟨hM2, hr, by rw [e39]; exact hg, fun r9 M8 ⟨f8, e9⟩ hS8 => ?_⟩
  rw [e39, e69, eg] at e9
  have e83 : rd M8 83 = rd M2 83 := funext fun j => f8.2.2 _ _ (by unfold KA; omega)
  have hz8 : ∀ i : Int, 0 ≤ i → i < 14 → rd M8 83 (0 + i) = 0 := fun i i0 i1 => by rw [e83]; exact z2 i i0 i1
  have n8 : nrm (rd M8 83) 0 14 := nrm0 hz8
  have v8 : vl (rd M8 83) 0 14 = 0 := vl_zero hz8
  refine ⟨hp.1, hp.2, hS8.Ar 83 14 rfl (by decide) (by decide), n8, by rw [e9]; omega, ⟨pop p, rfl, hq.1, hq.2, by rw [v8, e9]; omega⟩, fun M17 ⟨c17, n17, v17⟩ hS17 => ?_⟩
  have w17 := v17 (pop p) rfl hq.1 hq.2
  rw [v8, e9, Int.zero_add] at w17
  have f17 : Fr KE M M17 := (f2.tr (f8.mono (fun a j q => Or.inl q))).tr (Fr.ch c17 (fun j _ _ => Or.inr (Or.inl rfl)))
  have e69' : rd M17 69 = rd M 69 := funext fun j => f17.2.2 _ _ (by unfold KE KA; omega)
  have hM17 := hM.fr f17 (fun j q => by unfold KE KA at q; omega)
  rw [e12, e69']
  refine ⟨by omega, by omega, ⟨by omega, by omega⟩, fun hne => ?_, fun he => h M17 f17 hS17 n17 (by rw [w17, if_pos he]; omega)⟩
  rw [if_neg hne] at h
  have hT := hT hne
  refine ⟨hM17, Or.inl rfl, fun r26 M25 ⟨f25, e26⟩ hS25 => ⟨by decide, hz, by rw [e26]; exact chn_ok, fun M31 ⟨c31, s31⟩ hS31 => ?_⟩⟩
  have f31 : Fr KE M M31 := (f17.tr (f25.mono (fun a j q => Or.inl q))).tr (Fr.ch c31 (fun j _ _ => Or.inr (Or.inr (Or.inr rfl))))
  have hM31 := hM.fr f31 (fun j q => by unfold KE KA at q; omega)
  have e69'' : rd M31 69 = rd M 69 := funext fun j => f31.2.2 _ _ (by unfold KE KA; omega)
  refine ⟨hM31, Or.inr rfl, fun r37 M36 ⟨f36, e37⟩ hS36 => ⟨by decide, ho, by rw [e37]; exact chn_ok, fun M42 ⟨c42, s42⟩ hS42 => ?_⟩⟩
  have f42 : Fr KE M M42 := (f31.tr (f36.mono (fun a j q => Or.inl q))).tr (Fr.ch c42 (fun j _ _ => Or.inr (Or.inr (Or.inr rfl))))
  rw [e69''] at e37
  have hc0 := @chn_ok (rd M 69) sm 0 s p l z o
  have hc1 := @chn_ok (rd M 69) sm 1 s p l z o
  rw [← e26] at hc0 h
  rw [← e37] at hc1 h
  -- the numbers of who stays
  have st0 : ∀ k : Int, 0 ≤ k → k ≤ z → rd M42 87 (6 * z + k) = stv z r26 k := fun k k0 k1 => by
    rw [c42.2.2 _ _ (by omega), f36.2.2 _ _ (by unfold KA; omega)]
    have := s31 k k0 k1
    rw [show 36 * (0 : Int) + 6 * z + k = 6 * z + k by omega] at this
    exact this
  have st1 : ∀ k : Int, 0 ≤ k → k ≤ o → rd M42 87 (36 + 6 * o + k) = stv o r37 k := fun k k0 k1 => by
    have := s42 k k0 k1
    rw [show 36 * (1 : Int) + 6 * o + k = 36 + 6 * o + k by omega] at this
    exact this
  have n42 : nrm (rd M42 83) 0 14 ∧ vl (rd M42 83) 0 14 = brg (rd M 69) sm g s p l z o * sc (pop p) := by
    have e : rd M42 83 = rd M17 83 := funext fun j => by
      rw [c42.2.2 _ _ (by omega), f36.2.2 _ _ (by unfold KA; omega), c31.2.2 _ _ (by omega), f25.2.2 _ _ (by unfold KA; omega)]
    rw [e]; exact ⟨n17, w17⟩
  have hinn : ∀ a : Int, 0 ≤ a → a ≤ z → ∀ n : Nat, (n : Int) ≤ o + 1 → 0 ≤ sumTo (fun b => stv o r37 b * U a b) n ∧ sumTo (fun b => stv o r37 b * U a b) n ≤ 10000000000 * bnd (pop p + 1) := by
    intro a a0 a1 n hn
    have h1 := sumTo_mul_le (f := fun b => stv o r37 b) (U := fun b => U a b) (B := bnd (pop p + 1)) (n := n) (fun b b0 b1 => ⟨(stv_ok ho.1 ho.2 hc1.1 (by omega) b0 (by omega)).1, (hT a b a0 a1 b0 (by omega)).2.2⟩)
    have h2 := sumTo_mono (f := fun b => stv o r37 b) (n := n) (m := o.toNat + 1) (by omega) (fun b b0 b1 => (stv_ok ho.1 ho.2 hc1.1 (by omega) b0 (by omega)).1)
    rw [stv_sum ho.1 ho.2 hc1.1 (by omega)] at h2
    have h3 : sumTo (fun b => stv o r37 b) n * bnd (pop p + 1) ≤ 10000000000 * bnd (pop p + 1) := Int.mul_le_mul_of_nonneg_right h2 hb1.1
    exact ⟨h1.1, by omega⟩
  have hout : ∀ n : Nat, (n : Int) ≤ z + 1 → 0 ≤ sumTo (fun a => stv z r26 a * sumTo (fun b => stv o r37 b * U a b) (o.toNat + 1)) n ∧ sumTo (fun a => stv z r26 a * sumTo (fun b => stv o r37 b * U a b) (o.toNat + 1)) n ≤ 100000000000000000000 * bnd (pop p + 1) := by
    intro n hn
    have h1 := sumTo_mul_le (f := fun a => stv z r26 a) (U := fun a => sumTo (fun b => stv o r37 b * U a b) (o.toNat + 1)) (B := 10000000000 * bnd (pop p + 1)) (n := n) (fun a a0 a1 => ⟨(stv_ok hz.1 hz.2 hc0.1 (by omega) a0 (by omega)).1, hinn a a0 (by omega) _ (by omega)⟩)
    have h2 := sumTo_mono (f := fun a => stv z r26 a) (n := n) (m := z.toNat + 1) (by omega) (fun a a0 a1 => (stv_ok hz.1 hz.2 hc0.1 (by omega) a0 (by omega)).1)
    rw [stv_sum hz.1 hz.2 hc0.1 (by omega)] at h2
    have h3 : sumTo (fun a => stv z r26 a) n * (10000000000 * bnd (pop p + 1)) ≤ 10000000000 * (10000000000 * bnd (pop p + 1)) := Int.mul_le_mul_of_nonneg_right h2 (by omega)
    exact ⟨h1.1, by omega⟩
  have fixd : ∀ Mk, Fr (fun a _ => a = 83 ∨ a = 84) M42 Mk → Fr KE M Mk ∧ (∀ j, rd Mk 87 j = rd M42 87 j) ∧ ∀ j, rd Mk 81 j = rd M 81 j := by
    intro Mk fk
    refine ⟨f42.tr (fk.mono (fun a j q => by rcases q with q | q; exact Or.inr (Or.inl q); exact Or.inr (Or.inr (Or.inl q)))), fun j => fk.2.2 _ _ (by omega), fun j => ?_⟩
    rw [fk.2.2 _ _ (by omega), f42.2.2 _ _ (by unfold KE KA; omega)]
  have key : ∀ m n : Nat, (n : Int) + m = z + 1 → ∀ Mk, Fr (fun a _ => a = 83 ∨ a = 84) M42 Mk → Sh Mk → nrm (rd Mk 83) 0 14 → vl (rd Mk 83) 0 14 = brg (rd M 69) sm g s p l z o * sc (pop p) + sumTo (fun a => stv z r26 a * sumTo (fun b => stv o r37 b * U a b) (o.toNat + 1)) n →
      X G Y_X12_reckonScene d 0 0 91 [vA 67, vI goal, vI s, vI p, vI l, vI z, vI o, vI n, vU] [] Mk Q := by
    intro m
    induction m with
    | zero =>
      intro n hn Mk fk hSk nk vk
      refine B_X12_reckonScene_91 (by omega) hSk ⟨⟨by omega, by omega⟩, ⟨by omega, by omega⟩, fun _ => ?_, fun w => by omega⟩
      refine h Mk (fixd Mk fk).1 hSk nk ?_
      rw [vk]; unfold expc
      rw [show z.toNat + 1 = n by omega]
    | succ m ih =>
      intro n hn Mk fk hSk nk vk
      refine B_X12_reckonScene_91 (by omega) hSk ⟨⟨by omega, by omega⟩, ⟨by omega, by omega⟩, fun w => by omega, fun _ => ⟨hSk.Ar 84 14 rfl (by decide) (by decide), fun M4 ⟨c4, z4⟩ hS4 => ?_⟩⟩
      have f4 : Fr (fun a _ => a = 83 ∨ a = 84) M42 M4 := fk.tr (Fr.ch c4 (fun j _ _ => Or.inr rfl))
      have e4 : rd M4 83 = rd Mk 83 := funext fun j => c4.2.2 _ _ (by omega)
      have kin : ∀ m2 b : Nat, (b : Int) + m2 = o + 1 → ∀ Mj, Fr (fun a _ => a = 83 ∨ a = 84) M42 Mj → Sh Mj → rd Mj 83 = rd Mk 83 → nrm (rd Mj 84) 0 14 → vl (rd Mj 84) 0 14 = sumTo (fun b => stv o r37 b * U n b) b →
          X G Y_X12_reckonScene d 0 0 109 [vA 67, vI goal, vI s, vI p, vI l, vI z, vI o, vI n, vI b] [] Mj Q := by
        intro m2
        induction m2 with
        | zero =>
          intro b hb' Mj fj hSj ej nj vj
          obtain ⟨-, e87, -⟩ := fixd Mj fj
          have hs0 := st0 n (by omega) (by omega)
          have hsv := stv_ok hz.1 hz.2 hc0.1 (show r26 < 101 by omega) (show 0 ≤ (n : Int) by omega) (show (n : Int) < 6 by omega)
          have hi := hinn n (by omega) (by omega) (o.toNat + 1) (by omega)
          have ho1 := hout (n + 1) (by omega)
          rw [sumTo] at ho1
          have eb : b = o.toNat + 1 := by omega
          rw [eb] at vj
          have hprod : vl (rd Mj 84) 0 14 * stv z r26 n = stv z r26 n * sumTo (fun b => stv o r37 b * U n b) (o.toNat + 1) := by rw [vj]; exact Int.mul_comm ..
          refine B_X12_reckonScene_109 (by omega) hSj ⟨⟨by omega, by omega⟩, ⟨by omega, by omega⟩, fun _ => ?_, fun w => by omega⟩
          rw [e87, hs0, ej]
          refine ⟨by omega, by omega, hSj.Ar 83 14 rfl (by decide) (by decide), hSj.Ar 84 14 rfl (by decide) (by decide), by decide, nk, nj, hsv, by rw [vk, hprod]; omega, fun M12 ⟨c12, n12, v12⟩ hS12 => ?_⟩
          refine ih (n + 1) (by omega) M12 (fj.tr (Fr.ch c12 (fun j _ _ => Or.inl rfl))) hS12 n12 ?_
          have es : sumTo (fun a => stv z r26 a * sumTo (fun b => stv o r37 b * U a b) (o.toNat + 1)) (n + 1) = sumTo (fun a => stv z r26 a * sumTo (fun b => stv o r37 b * U a b) (o.toNat + 1)) n + stv z r26 n * sumTo (fun b => stv o r37 b * U n b) (o.toNat + 1) := rfl
          rw [v12, vk, hprod, es]; omega
        | succ m2 ih2 =>
          intro b hb' Mj fj hSj ej nj vj
          obtain ⟨-, e87, e81⟩ := fixd Mj fj
          have hs1 := st1 b (by omega) (by omega)
          have hsv := stv_ok ho.1 ho.2 hc1.1 (show r37 < 101 by omega) (show 0 ≤ (b : Int) by omega) (show (b : Int) < 6 by omega)
          obtain ⟨t1, t2, t3, t4⟩ := hT n b (by omega) (by omega) (by omega) (by omega)
          have hi := hinn n (by omega) (by omega) (b + 1) (by omega)
          rw [sumTo] at hi
          have esta : (14 * ((((((((iOr p (iShl 1 s)) * 6) + s) + 1) * 6) + (n : Int)) * 6) + (b : Int))) = 14 * sta (sb p s) s n b := rfl
          have hst : 0 ≤ sta (sb p s) s n b ∧ sta (sb p s) s n b < 6912 := by unfold sta; omega
          have ef : rd Mj 81 = rd M 81 := funext e81
          have hprod : U n b * stv o r37 b = stv o r37 b * U n b := Int.mul_comm ..
          refine B_X12_reckonScene_109 (by omega) hSj ⟨⟨by omega, by omega⟩, ⟨by omega, by omega⟩, fun w => by omega, fun _ => ?_⟩
          rw [e87, hs1, esta, ef]
          refine ⟨by omega, by omega, hSj.Ar 84 14 rfl (by decide) (by decide), hSj.Ar 81 96768 rfl ⟨by decide, by decide, by omega, by decide⟩ (by omega), by decide, nj, t1, hsv, by rw [vj, t2, hprod]; have := hb1.2.2 (by omega); omega, fun M24 ⟨c24, n24, v24⟩ hS24 => ?_⟩
          refine ih2 (b + 1) (by omega) M24 (fj.tr (Fr.ch c24 (fun j _ _ => Or.inr rfl))) hS24 ((funext fun j => c24.2.2 _ _ (by omega)).trans ej) n24 ?_
          rw [v24, vj, t2, hprod, sumTo]
      exact kin (o + 1).toNat 0 (by omega) M4 f4 hS4 e4 (nrm0 z4) (by rw [vl_zero z4]; rfl)
  exact key (z + 1).toNat 0 (by omega) M42 Fr.rf hS42 n42.1 (by rw [n42.2]; simp [sumTo])
end SC
