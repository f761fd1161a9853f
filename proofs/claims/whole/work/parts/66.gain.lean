/-! ===== what a scene brings, and the sum that it begins ===== -/
theorem vl_one {f : Int → Int} {a : Int} {k : Nat} : ∀ {n : Nat}, k < n → (∀ i : Int, 0 ≤ i → i < n → i ≠ k → f (a + i) = 0) → vl f a n = f (a + k) * Bp k
  | 0, h, _ => by omega
  | n + 1, h, hz => by
    rw [vl]
    by_cases e : k = n
    · subst e
      rw [vl_zero (fun i h0 h1 => hz i h0 (by omega) (by omega)), Int.zero_add]
    · rw [vl_one (by omega) (fun i h0 h1 h2 => hz i h0 (by omega) h2), hz n (by omega) (by omega) (by omega), Int.zero_mul, Int.add_zero]
theorem ten_q {q : Int} (h0 : 0 ≤ q) (h1 : q ≤ 5) : tenF ((20 * (5 - q)) % 8).toNat = (if (20 * (5 - q)) % 8 = 0 then 1 else 10000) ∧ 0 ≤ tenF ((20 * (5 - q)) % 8).toNat ∧ tenF ((20 * (5 - q)) % 8).toNat ≤ 10000 ∧ 0 ≤ sc q ∧ sc q ≤ sc 0 := by
  have : q = 0 ∨ q = 1 ∨ q = 2 ∨ q = 3 ∨ q = 4 ∨ q = 5 := by omega
  rcases this with rfl | rfl | rfl | rfl | rfl | rfl <;> decide +kernel
section GA
variable {G : GG} {d : Nat} {M : MM} {Q : PV → MM → Prop} {sm : Int → LSm} {r : Int → Int}
theorem T_X9_gain {t g s p l z o w : Int} (ht : t = 32 ∨ t = 44) (hS : Sh M) (hH : HR M r) (hV : RS r) (hg : rd M t 11 = g) (hk : 0 ≤ g ∧ g ≤ 10) (hs : 0 ≤ s ∧ s < 5)
    (hw : g = 8 → iAnd (iShr w 16) 1023 = prcs r sm s p l z o) (hd : 2 ≤ d) (h : Q (vI (brg r sm g s p l z o)) M) : C G Y_X9_gain d 0 0 [vA t, vI s, vI z, vI o, vI w] M Q := by
  have a2 := (hH.2.1 s hs.1 hs.2).1
  have a4 := (hH.2.1 s hs.1 hs.2).2.2
  have a60 : rd M 6 0 = r 31 := (hH.2.2.1 0 (by decide) (by decide)).2.1
  have a61 : rd M 6 1 = r 34 := (hH.2.2.1 1 (by decide) (by decide)).2.1
  have a80 : rd M 8 0 = r 40 := hH.2.2.2.1 0 (by decide) (by decide)
  have a81 : rd M 8 1 = r 41 := hH.2.2.2.1 1 (by decide) (by decide)
  have b := (hV.2.2.1 s hs.1 hs.2).2.2.2.2
  have k78 : ∀ v4 : Int, ((r (12 + 3 * s) = 1 ∧ v4 = 1) ∨ (r (12 + 3 * s) ≠ 1 ∧ v4 = 0)) → 8 ≤ g → X G Y_X9_gain d 0 0 78 [vA t, vI s, vI z, vI o, vI w, vI v4, vU, vU] [] M Q := by
    intro v4 hv4 g8
    refine B_X9_gain_78 hd ht hS ?_
    rw [hg, a60, a61, a80, a81, a2]
    refine ⟨⟨by omega, by omega⟩, fun v12 e12 v23 e23 => ⟨hs.1, hs.2, ⟨by omega, by omega⟩, fun v35 e35 => ?_⟩⟩
    have eb : brg r sm g s p l z o = (v23 * v35) + (if g ≠ 8 then 0 else (iAnd (iShr w 16) 1023)) := by
      unfold brg
      rw [if_neg (by omega), if_neg (by omega), if_neg (by omega), if_neg (by omega), e23, e12, e35]
      have q1 : (if g ≠ 10 then z * r 31 else 0) = (if g = 10 then 0 else z * r 31) := by by_cases e : g = 10 <;> simp [e]
      have q2 : (if g ≠ 9 then o * r 34 else 0) = (if g = 9 then 0 else o * r 34) := by by_cases e : g = 9 <;> simp [e]
      have q3 : (if v4 = 0 then 0 else r 41) = (if r (12 + 3 * s) = 1 then r 41 else 0) := by
        rcases hv4 with ⟨y1, y2⟩ | ⟨y1, y2⟩
        · rw [if_neg (by omega), if_pos y1]
        · rw [if_pos y2, if_neg y1]
      have q4 : (if g ≠ 8 then 0 else (iAnd (iShr w 16) 1023)) = (if g = 8 then prcs r sm s p l z o else 0) := by
        by_cases e : g = 8
        · rw [if_neg (by omega), if_pos e, hw e]
        · rw [if_pos e, if_neg e]
      rw [q1, q2, q3, q4]
    rw [← eb]
    exact h
  refine C_X9_gain (B_X9_gain_0 hd ht hS ?_)
  rw [a4, hg]
  refine ⟨hs.1, hs.2, ⟨by omega, by omega⟩, fun v4 e4 => ?_⟩
  have hv4 : (r (12 + 3 * s) = 1 ∧ v4 = 1) ∨ (r (12 + 3 * s) ≠ 1 ∧ v4 = 0) := by
    rw [e4]
    by_cases e : r (12 + 3 * s) = 1
    · exact Or.inl ⟨e, if_pos e⟩
    · exact Or.inr ⟨e, if_neg e⟩
  refine ⟨⟨by omega, by omega⟩, fun c => ⟨⟨by omega, by omega⟩, ?_⟩, fun c => ⟨⟨by omega, by omega⟩, ?_⟩, fun c => ?_, fun c => ⟨⟨by omega, by omega⟩, ?_⟩, fun c => k78 v4 hv4 (by omega), fun c => k78 v4 hv4 (by omega), fun c => k78 v4 hv4 (by omega)⟩
  · have eb : brg r sm g s p l z o = (if s = g then 1 else 0) := by
      unfold brg
      rw [if_pos (by omega)]
      by_cases e : s = g
      · rw [if_pos e.symm, if_pos e]
      · rw [if_neg (fun q => e q.symm), if_neg e]
    rw [← eb]; exact h
  · have eb : brg r sm g s p l z o = (if v4 ≠ 0 then 1 else 0) := by
      unfold brg
      rw [if_neg (by omega), if_pos c]
      rcases hv4 with ⟨y1, y2⟩ | ⟨y1, y2⟩
      · rw [if_pos y1, if_pos (by omega)]
      · rw [if_neg y1, if_neg (by omega)]
    rw [← eb]; exact h
  · have eb : brg r sm g s p l z o = 0 := by
      unfold brg
      rw [if_neg (by omega), if_neg (by omega), if_pos c]
    rw [← eb]; exact h
  · have eb : brg r sm g s p l z o = (if v4 = 0 then 0 else (z + o)) := by
      unfold brg
      rw [if_neg (by omega), if_neg (by omega), if_neg (by omega), if_pos c]
      rcases hv4 with ⟨y1, y2⟩ | ⟨y1, y2⟩
      · rw [if_pos y1, if_neg (by omega)]
      · rw [if_neg y1, if_pos y2]
    rw [← eb]; exact h
theorem arT {t j : Int} (ht : t = 32 ∨ t = 44) (hS : Sh M) (hj : j = 3 ∨ j = 4) : Ar M (t + j) 0 14 := by
  rcases hj with rfl | rfl
  · have q := sOt_3 ht hS
    exact ⟨q.1, q.2.1, q.2.2, by decide, by rw [sLt_3 ht hS]; decide, by rw [sLt_3 ht hS]; decide⟩
  · have q := sOt_4 ht hS
    exact ⟨q.1, q.2.1, q.2.2, by decide, by rw [sLt_4 ht hS]; decide, by rw [sLt_4 ht hS]; decide⟩
theorem T_X9_startSum {t q v : Int} (ht : t = 32 ∨ t = 44) (hS : Sh M) (hq : 0 ≤ q ∧ q ≤ 5) (hv : 0 ≤ v ∧ v ≤ 1000000000) (hd : 2 ≤ d)
    (h : ∀ M', (Ch M M' (t + 3) 0 14 ∧ nrm (rd M' (t + 3)) 0 14 ∧ vl (rd M' (t + 3)) 0 14 = v * sc q) → Sh M' → Q vU M') : C G Y_X9_startSum d 0 0 [vA t, vI q, vL v] M Q := by
  refine C_X9_startSum (B_X9_startSum_0 hd ht hS ⟨⟨sOt_3 ht hS, by rw [sLt_3 ht hS]; decide, by rw [sLt_3 ht hS]; decide⟩, fun M2 e2 s2 => ?_⟩)
  obtain ⟨len, el, c2, z2⟩ := e2
  have el' : len = 14 := by rw [← el]; exact sLt_3 ht hS
  rw [el'] at c2 z2
  obtain ⟨t1, t2, t3, t4, t5⟩ := ten_q hq.1 hq.2
  refine ⟨arT ht s2 (Or.inl rfl), ⟨by omega, by omega⟩, fun M7 e7 s7 => ⟨arT ht s7 (Or.inl rfl), ?_⟩⟩
  have hx := mul_le hv.1 hv.2 t2 t3
  have k0 : 0 ≤ (20 * (5 - q)) / 8 ∧ (20 * (5 - q)) / 8 < 14 := by omega
  have r7 : ∀ i : Int, 0 ≤ i → i < 14 → i ≠ (20 * (5 - q)) / 8 → rd M7 (t + 3) i = 0 := fun i i0 i1 i2 => by
    rw [e7, rd_wr, if_neg (fun y => i2 y.2)]
    exact z2 i i0 i1
  have r8 : rd M7 (t + 3) ((20 * (5 - q)) / 8) = v * tenF ((20 * (5 - q)) % 8).toNat := by
    rw [e7, rd_wr, if_pos ⟨rfl, rfl⟩, z2 _ k0.1 k0.2, Int.zero_add]
  have kk : (((20 * (5 - q)) / 8).toNat : Int) = (20 * (5 - q)) / 8 := Int.toNat_of_nonneg k0.1
  have hvl : vl (rd M7 (t + 3)) 0 14 = v * sc q := by
    rw [vl_one (k := ((20 * (5 - q)) / 8).toNat) (by omega) (fun i i0 i1 i2 => by rw [Int.zero_add]; exact r7 i i0 i1 (by rw [← kk]; exact i2)), Int.zero_add, kk, r8, sc_B hq.1 hq.2, t1, Int.mul_assoc]
  refine ⟨fun i i0 i1 => ?_, ?_, fun M13 e13 s13 => h M13 ⟨?_, e13.2.1, by rw [e13.2.2, hvl]⟩ s13⟩
  · by_cases e : i = (20 * (5 - q)) / 8
    · rw [e, r8]
      generalize v * tenF ((20 * (5 - q)) % 8).toNat = y at *
      omega
    · rw [r7 i i0 i1 e]; decide
  · rw [hvl]
    have hy := mul_le hv.1 hv.2 t4 t5
    have hb : (1000000000 : Int) * sc 0 < Bp 14 := by decide +kernel
    exact Int.lt_of_le_of_lt hy.2 hb
  · have c7 : Ch M2 M7 (t + 3) 0 14 := by rw [e7]; exact Ch.rf.wr (by omega) (by omega)
    exact (c2.tr c7).tr e13.1
end GA
