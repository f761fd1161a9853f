section DG2
variable {G : GG} {d : Nat} {M : MM} {Q : PV → MM → Prop}
theorem S_X2_addTimes {to fr at' times : Int} {n : Nat} (hto : Ar M to 0 n) (hfr : Ar M fr at' n) (hne : to ≠ fr) (hn : n ≤ 14) (hd : 1 ≤ d)
    (h : ∀ M', Ch M M' to 0 n → (∀ i : Int, 0 ≤ i → i < n → rd M' to i = rd M to i + rd M fr (at' + i) * times) → Q vU M') : C G Y_X2_addTimes d 0 0 [vA to, vA fr, vI at', vI n, vL times] M Q := by
  refine C_X2_addTimes (B_X2_addTimes_0 hd ?_)
  have key : ∀ m k : Nat, k + m = n → ∀ (Mk : MM), Ch M Mk to 0 k → (∀ i : Int, 0 ≤ i → i < k → rd Mk to i = rd M to i + rd M fr (at' + i) * times) → X G Y_X2_addTimes d 0 0 3 [vA to, vA fr, vI at', vI n, vL times, vU, vI k] [] Mk Q := by
    intro m
    induction m with
    | zero =>
      intro k hk Mk hC hz
      refine B_X2_addTimes_3 hd ⟨⟨by omega, by omega⟩, ⟨by omega, by omega⟩, fun _ => h Mk (hC.mono (by omega) (by omega)) (fun i h0 h1 => hz i h0 (by omega)), fun z => by omega⟩
    | succ m ih =>
      intro k hk Mk hC hz
      refine B_X2_addTimes_3 hd ⟨⟨by omega, by omega⟩, ⟨by omega, by omega⟩, fun z => by omega, fun _ => ⟨(hto.ch hC).ok (by omega) (by omega), (hfr.ch hC).ok (by omega) (by omega), fun M1 e1 => ?_⟩⟩
      rw [hC.2.2 to k (by omega), hC.2.2 fr _ (fun q => hne q.1.symm)] at e1
      refine ih (k + 1) (by omega) M1 (by rw [e1]; exact (hC.mono (by omega) (by omega)).wr (by omega) (by omega)) (fun i h0 h1 => ?_)
      rw [e1, rd_wr]
      split
      · rename_i q; rw [q.2]
      · rename_i q; exact hz i h0 (by omega)
  exact key n 0 (by omega) M Ch.rf (fun i h0 h1 => by omega)
theorem S_X2_carry {a N : Int} (ha : Ar M a 0 14) (hb : ∀ i : Int, 0 ≤ i → i < 14 → 0 ≤ rd M a i ∧ rd M a i ≤ 4000000000000000000) (hv : vl (rd M a) 0 14 = N) (hlt : N < Bp 14) (hd : 1 ≤ d)
    (h : ∀ M', Ch M M' a 0 14 → nrm (rd M' a) 0 14 → vl (rd M' a) 0 14 = N → Q vU M') : C G Y_X2_carry d 0 0 [vA a] M Q := by
  refine C_X2_carry (B_X2_carry_0 hd ?_)
  have key : ∀ m k : Nat, k + m = 14 → ∀ (Mk : MM) (c : Int), Ch M Mk a 0 k → nrm (rd Mk a) 0 k → 0 ≤ c → c ≤ 50000000000 → vl (rd Mk a) 0 k + c * Bp k = vl (rd M a) 0 k → X G Y_X2_carry d 0 0 4 [vA a, vL c, vU, vI k, vU, vU] [] Mk Q := by
    intro m
    induction m with
    | zero =>
      intro k hk Mk c hC hn c0 c1 he
      have : k = 14 := by omega
      subst this
      refine B_X2_carry_4 hd ⟨⟨by omega, by omega⟩, fun _ => ?_, fun z => by omega⟩
      have hv2 := vl_lt hn
      have hz : c = 0 := by
        rcases Int.lt_or_eq_of_le c0 with q | q
        · have : 1 * Bp 14 ≤ c * Bp 14 := Int.mul_le_mul_of_nonneg_right (by omega) (Int.le_of_lt (Bp_pos 14))
          omega
        · exact q.symm
      subst hz
      exact h Mk hC hn (by omega)
    | succ m ih =>
      intro k hk Mk c hC hn c0 c1 he
      have eT : rd Mk a k = rd M a k := hC.2.2 _ _ (by omega)
      have bT := hb k (by omega) (by omega)
      refine B_X2_carry_4 hd ⟨⟨by omega, by omega⟩, fun z => by omega, fun _ => ⟨(ha.ch hC).ok (by omega) (by omega), fun v ev => ⟨⟨by omega, by omega⟩, fun v2 e2 M1 e1 => ?_⟩⟩⟩
      rw [Int.tdiv_eq_ediv_of_nonneg (by omega)] at e2
      have hm := ediv_emod v
      have hq : v - v2 * 100000000 = v % 100000000 := by omega
      rw [hq] at e1
      have hC1 : Ch M M1 a 0 (k + 1 : Nat) := by rw [e1]; exact (hC.mono (by omega) (by omega)).wr (by omega) (by omega)
      have hrd : ∀ i : Int, 0 ≤ i → i < k → rd M1 a (0 + i) = rd Mk a (0 + i) := fun i i0 i1 => by rw [e1, rd_wr, if_neg (by omega)]
      have hrk : rd M1 a (0 + k) = v % 100000000 := by rw [e1, rd_wr, if_pos ⟨rfl, by omega⟩]
      refine ih (k + 1) (by omega) M1 v2 hC1 (fun i i0 i1 => ?_) (by omega) (by omega) ?_
      · by_cases q : i = k
        · subst q; rw [hrk]; omega
        · rw [hrd i i0 (by omega)]; exact hn i i0 (by omega)
      · rw [vl, vl, vl_congr (fun i i0 i1 => hrd i i0 i1), hrk, Bp_s, e2, Int.zero_add]
        rw [eT] at ev
        grind
  exact key 14 0 rfl M 0 Ch.rf (fun i h0 h1 => by omega) (by omega) (by omega) (by simp [vl])
theorem S_X2_compare {a b at' A B : Int} {n : Nat} (hn : n ≤ 14) (ha : Ar M a 0 n) (hb : Ar M b at' n) (nA : nrm (rd M a) 0 n) (vA' : vl (rd M a) 0 n = A) (nB : nrm (rd M b) at' n) (vB : vl (rd M b) at' n = B) (hd : 1 ≤ d)
    (h : Q (vI (cmpI A B)) M) : C G Y_X2_compare d 0 0 [vA a, vA b, vI at', vI n] M Q := by
  refine C_X2_compare (B_X2_compare_0 hd ?_)
  intro v ev
  subst ev
  have key : ∀ k : Nat, k ≤ n → (∀ i : Int, k ≤ i → i < n → rd M a i = rd M b (at' + i)) → X G Y_X2_compare d 0 0 5 [vA a, vA b, vI at', vI n, vI ((k : Int) - 1)] [] M Q := by
    intro k
    induction k with
    | zero =>
      intro _ he
      refine B_X2_compare_5 hd ⟨⟨by omega, by omega⟩, fun _ => ?_, fun z => by omega⟩
      have : A = B := by rw [← vA', ← vB]; exact vl_congr (fun i i0 i1 => by rw [Int.zero_add]; exact he i (by omega) (by omega))
      unfold cmpI at h
      rw [if_neg (by omega), if_pos this] at h
      exact h
    | succ k ih =>
      intro hk he
      have bA := nA k (by omega) (by omega)
      have bB := nB k (by omega) (by omega)
      rw [Int.zero_add] at bA
      have ek : (((k + 1 : Nat) : Int) - 1) = k := by omega
      rw [ek]
      refine B_X2_compare_5 hd ⟨⟨by omega, by omega⟩, fun z => by omega, fun _ => ⟨ha.ok (by omega) (by omega), hb.ok (by omega) (by omega), ⟨by omega, by omega⟩, ⟨by omega, by omega⟩, fun q => ?_, fun q => ?_⟩⟩
      · rw [show (k : Int) + (-1) = k - 1 by omega]
        exact ih (by omega) (fun i i0 i1 => by
          by_cases z : i = k
          · subst z; exact q
          · exact he i (by omega) i1)
      · have he' : ∀ i : Int, k < i → i < n → rd M a (0 + i) = rd M b (at' + i) := fun i i0 i1 => by rw [Int.zero_add]; exact he i (by omega) (by omega)
        by_cases z : rd M b (at' + k) ≤ rd M a k
        · rw [if_pos z]
          have := vl_cmp nB nA (k := k) (by omega) (fun i i0 i1 => (he' i i0 i1).symm) (by rw [Int.zero_add]; omega)
          unfold cmpI at h
          rw [if_neg (by omega), if_neg (by omega)] at h
          exact h
        · rw [if_neg z]
          have := vl_cmp nA nB (k := k) (by omega) he' (by rw [Int.zero_add]; omega)
          unfold cmpI at h
          rw [if_pos (by omega)] at h
          exact h
  exact key n (Nat.le_refl _) (fun i i0 i1 => by omega)
theorem S_X2_subtract {a b A B : Int} (ha : Ar M a 0 14) (hb : Ar M b 0 14) (hne : a ≠ b) (nA : nrm (rd M a) 0 14) (vA' : vl (rd M a) 0 14 = A) (nB : nrm (rd M b) 0 14) (vB : vl (rd M b) 0 14 = B) (hle : B ≤ A) (hd : 1 ≤ d)
    (h : ∀ M', Ch M M' a 0 14 → nrm (rd M' a) 0 14 → vl (rd M' a) 0 14 = A - B → Q vU M') : C G Y_X2_subtract d 0 0 [vA a, vA b] M Q := by
  refine C_X2_subtract (B_X2_subtract_0 hd ?_)
  have key : ∀ m k : Nat, k + m = 14 → ∀ (Mk : MM) (c : Int), Ch M Mk a 0 k → nrm (rd Mk a) 0 k → (c = 0 ∨ c = 1) → vl (rd Mk a) 0 k - c * Bp k = vl (rd M a) 0 k - vl (rd M b) 0 k → X G Y_X2_subtract d 0 0 5 [vA a, vA b, vL c, vU, vI k, vU, vU] [] Mk Q := by
    intro m
    induction m with
    | zero =>
      intro k hk Mk c hC hn c0 he
      have : k = 14 := by omega
      subst this
      refine B_X2_subtract_5 hd ⟨⟨by omega, by omega⟩, fun _ => ?_, fun z => by omega⟩
      have hv2 := vl_lt hn
      rw [vA', vB] at he
      have hz : c = 0 := by
        rcases c0 with q | q
        · exact q
        · subst q; omega
      subst hz
      exact h Mk hC hn (by omega)
    | succ m ih =>
      intro k hk Mk c hC hn c0 he
      have eT : rd Mk a k = rd M a k := hC.2.2 _ _ (by omega)
      have eB : rd Mk b k = rd M b k := hC.2.2 _ _ (fun q => hne q.1.symm)
      have bT := nA k (by omega) (by omega)
      have bB := nB k (by omega) (by omega)
      rw [Int.zero_add] at bT bB
      refine B_X2_subtract_5 hd ⟨⟨by omega, by omega⟩, fun z => by omega, fun _ => ⟨(ha.ch hC).ok (by omega) (by omega), (hb.ch hC).ok (by omega) (by omega), fun v ev => ?_⟩⟩
      rw [eT, eB] at ev
      have c1 : 0 ≤ c ∧ c ≤ 1 := by omega
      refine ⟨⟨by omega, by omega⟩, fun w ew M1 e1 => ?_⟩
      have hw : (w = 0 ∧ 0 ≤ v) ∨ (w = 1 ∧ v < 0) := by
        by_cases q : 0 ≤ v
        · rw [if_pos q] at ew; exact Or.inl ⟨ew, q⟩
        · rw [if_neg q] at ew; exact Or.inr ⟨ew, by omega⟩
      have hC1 : Ch M M1 a 0 (k + 1 : Nat) := by rw [e1]; exact (hC.mono (by omega) (by omega)).wr (by omega) (by omega)
      have hrd : ∀ i : Int, 0 ≤ i → i < k → rd M1 a (0 + i) = rd Mk a (0 + i) := fun i i0 i1 => by rw [e1, rd_wr, if_neg (by omega)]
      have hrk : rd M1 a (0 + k) = v + w * 100000000 := by rw [e1, rd_wr, if_pos ⟨rfl, by omega⟩]
      refine ih (k + 1) (by omega) M1 w hC1 (fun i i0 i1 => ?_) (by omega) ?_
      · by_cases q : i = k
        · subst q; rw [hrk]; omega
        · rw [hrd i i0 (by omega)]; exact hn i i0 (by omega)
      · rw [vl, vl, vl, vl_congr (fun i i0 i1 => hrd i i0 i1), hrk, Bp_s, Int.zero_add]
        grind
  exact key 14 0 rfl M 0 Ch.rf (fun i h0 h1 => by omega) (Or.inl rfl) (by simp [vl])
/-- a figure of a long number -/
def itdiv (x : Int) : Nat → Int
  | 0 => x
  | n + 1 => itdiv (Int.tdiv x 10) n
def digF (f : Int → Int) (p : Int) : Int := Int.tmod (itdiv (f (p / 8)) (p % 8).toNat) 10
theorem S_X12_digit {a p : Int} (ha : Ar M a 0 14) (nA : nrm (rd M a) 0 14) (hp : 0 ≤ p ∧ p < 112) (hd : 1 ≤ d) (h : Q (vI (digF (rd M a) p)) M) : C G Y_X12_digit d 0 0 [vA a, vI p] M Q := by
  refine C_X12_digit (B_X12_digit_0 hd ?_)
  rw [Int.tdiv_eq_ediv_of_nonneg hp.1, Int.tmod_eq_emod_of_nonneg hp.1]
  have hA := nA (p / 8) (by omega) (by omega)
  rw [Int.zero_add] at hA
  refine ⟨⟨by omega, by omega⟩, ha.ok (by omega) (by omega), fun v ev w ew => ?_⟩
  have key : ∀ m : Nat, m ≤ 7 → ∀ x : Int, 0 ≤ x → x < 100000000 → Q (vI (Int.tmod (itdiv x m) 10)) M → X G Y_X12_digit d 0 0 13 [vA a, vI p, vL x, vU, vI m] [] M Q := by
    intro m
    induction m with
    | zero => intro _ x x0 x1 hq; exact B_X12_digit_13 hd ⟨⟨by omega, by omega⟩, fun _ => ⟨⟨by omega, by omega⟩, hq⟩, fun z => by omega⟩
    | succ m ih =>
      intro hm x x0 x1 hq
      refine B_X12_digit_13 hd ⟨⟨by omega, by omega⟩, fun z => by omega, fun _ => ⟨⟨by omega, by omega⟩, fun v4 e4 => ?_⟩⟩
      rw [show (((m + 1 : Nat) : Int) + (-1)) = m by omega]
      have e5 : v4 = x / 10 := by rw [e4, Int.tdiv_eq_ediv_of_nonneg x0]
      exact ih (by omega) v4 (by omega) (by omega) (by rw [e4]; exact hq)
  have := key (p % 8).toNat (by omega) v (by omega) (by omega) (by rw [ev]; exact h)
  rw [show (((p % 8).toNat : Nat) : Int) = w by omega] at this
  exact this
theorem S_X2_figure {a p : Int} (ha : Ar M a 0 14) (nA : nrm (rd M a) 0 14) (hp : 0 ≤ p ∧ p < 2000) (hd : 1 ≤ d) (h : Q (vI (if p < 112 then digF (rd M a) p else 0)) M) : C G Y_X2_figure d 0 0 [vA a, vI p] M Q := by
  refine C_X2_figure (B_X2_figure_0 hd ?_)
  rw [Int.tdiv_eq_ediv_of_nonneg hp.1, Int.tmod_eq_emod_of_nonneg hp.1]
  have key : ∀ m : Nat, m ≤ 7 → ∀ x z : Int, 0 ≤ x → x < 100000000 → Q (vI (Int.tmod (itdiv x m) 10)) M → X G Y_X2_figure d 0 0 25 [vA a, vI p, vI z, vL x, vU, vI m] [] M Q := by
    intro m
    induction m with
    | zero => intro _ x z x0 x1 hq; exact B_X2_figure_25 hd ⟨⟨by omega, by omega⟩, fun _ => ⟨⟨by omega, by omega⟩, hq⟩, fun z => by omega⟩
    | succ m ih =>
      intro hm x z x0 x1 hq
      refine B_X2_figure_25 hd ⟨⟨by omega, by omega⟩, fun z => by omega, fun _ => ⟨⟨by omega, by omega⟩, fun v4 e4 => ?_⟩⟩
      rw [show (((m + 1 : Nat) : Int) + (-1)) = m by omega]
      have e5 : v4 = x / 10 := by rw [e4, Int.tdiv_eq_ediv_of_nonneg x0]
      exact ih (by omega) v4 z (by omega) (by omega) (by rw [e4]; exact hq)
  refine ⟨⟨by omega, by omega⟩, fun v ev => ⟨⟨by omega, by omega⟩, fun c w ew => ?_, fun c => ⟨ha.ok (by omega) (by omega), fun x ex w ew => ?_⟩⟩⟩
  · rw [if_neg (by omega)] at h
    have z0 : ∀ m : Nat, itdiv 0 m = 0 := by
      intro m
      induction m with
      | zero => rfl
      | succ m ih => exact ih
    have := key (p % 8).toNat (by omega) 0 v (by omega) (by omega) (by rw [z0]; exact h)
    rw [show (((p % 8).toNat : Nat) : Int) = w by omega] at this
    exact this
  · rw [if_pos (by omega)] at h
    have hA := nA v (by omega) (by omega)
    rw [Int.zero_add] at hA
    have := key (p % 8).toNat (by omega) x v (by omega) (by omega) (by rw [ex, ev]; exact h)
    rw [show (((p % 8).toNat : Nat) : Int) = w by omega] at this
    exact this
end DG2
