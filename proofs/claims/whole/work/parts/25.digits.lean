/-! ===== long numbers: rows of eight figures each ===== -/
def Bp (n : Nat) : Int := (100000000 : Int) ^ n
theorem Bp_s (n : Nat) : Bp (n + 1) = Bp n * 100000000 := Int.pow_succ ..
theorem Bp_pos (n : Nat) : 0 < Bp n := Int.pow_pos (by decide)
def vl (f : Int → Int) (at' : Int) : Nat → Int
  | 0 => 0
  | n + 1 => vl f at' n + f (at' + n) * Bp n
def nrm (f : Int → Int) (at' : Int) (n : Nat) : Prop := ∀ i : Int, 0 ≤ i → i < n → 0 ≤ f (at' + i) ∧ f (at' + i) < 100000000
theorem vl_congr {f g : Int → Int} {a b : Int} : ∀ {n : Nat}, (∀ i : Int, 0 ≤ i → i < n → f (a + i) = g (b + i)) → vl f a n = vl g b n
  | 0, _ => rfl
  | n + 1, h => by rw [vl, vl, vl_congr (fun i h0 h1 => h i h0 (by omega)), h n (by omega) (by omega)]
theorem nrm.mono {f : Int → Int} {a : Int} {n m : Nat} (h : nrm f a n) (hm : m ≤ n) : nrm f a m := fun i h0 h1 => h i h0 (by omega)
theorem vl_lt {f : Int → Int} {a : Int} : ∀ {n : Nat}, nrm f a n → 0 ≤ vl f a n ∧ vl f a n < Bp n
  | 0, _ => by simp [vl, Bp]
  | n + 1, h => by
    have h1 := vl_lt (h.mono (Nat.le_succ n))
    have h2 := h n (by omega) (by omega)
    have h3 := Bp_pos n
    rw [vl, Bp_s]
    have h4 : 0 ≤ f (a + n) * Bp n := Int.mul_nonneg h2.1 (by omega)
    have h5 : f (a + n) * Bp n ≤ 99999999 * Bp n := Int.mul_le_mul_of_nonneg_right (by omega) (by omega)
    omega
theorem vl_zero {f : Int → Int} {a : Int} : ∀ {n : Nat}, (∀ i : Int, 0 ≤ i → i < n → f (a + i) = 0) → vl f a n = 0
  | 0, _ => rfl
  | n + 1, h => by rw [vl, vl_zero (fun i h0 h1 => h i h0 (by omega)), h n (by omega) (by omega)]; simp
/-- equal numbers have equal limbs -/
theorem vl_inj {f g : Int → Int} {a b : Int} : ∀ {n : Nat}, nrm f a n → nrm g b n → vl f a n = vl g b n → ∀ i : Int, 0 ≤ i → i < n → f (a + i) = g (b + i)
  | 0, _, _, _, i, h0, h1 => by omega
  | n + 1, hf, hg, h, i, h0, h1 => by
    have hf1 := vl_lt (hf.mono (Nat.le_succ n))
    have hg1 := vl_lt (hg.mono (Nat.le_succ n))
    rw [vl, vl] at h
    have e : f (a + n) = g (b + n) := by
      have h3 := Bp_pos n
      rcases Int.lt_trichotomy (f (a + n)) (g (b + n)) with q | q | q
      · have : (f (a + n) + 1) * Bp n ≤ g (b + n) * Bp n := Int.mul_le_mul_of_nonneg_right (by omega) (by omega)
        rw [Int.add_mul] at this; omega
      · exact q
      · have : (g (b + n) + 1) * Bp n ≤ f (a + n) * Bp n := Int.mul_le_mul_of_nonneg_right (by omega) (by omega)
        rw [Int.add_mul] at this; omega
    by_cases q : i = n
    · subst q; exact e
    · exact vl_inj (hf.mono (Nat.le_succ n)) (hg.mono (Nat.le_succ n)) (by rw [e] at h; omega) i h0 (by omega)
/-- only the cells at' .. at' + n of the array a have changed -/
def Ch (M M' : MM) (a at' : Int) (n : Nat) : Prop := mN M' = mN M ∧ (∀ b, mT M' b = mT M b) ∧ ∀ b j, ¬ (b = a ∧ at' ≤ j ∧ j < at' + n) → rd M' b j = rd M b j
theorem Ch.rf {M : MM} {a at' : Int} {n : Nat} : Ch M M a at' n := ⟨rfl, fun _ => rfl, fun _ _ _ => rfl⟩
theorem Ch.tr {M M1 M2 : MM} {a at' : Int} {n : Nat} (h : Ch M M1 a at' n) (g : Ch M1 M2 a at' n) : Ch M M2 a at' n := ⟨g.1.trans h.1, fun b => (g.2.1 b).trans (h.2.1 b), fun b j q => (g.2.2 b j q).trans (h.2.2 b j q)⟩
theorem Ch.mono {M M1 : MM} {a at' at2 : Int} {n n2 : Nat} (h : Ch M M1 a at' n) (h1 : at2 ≤ at') (h2 : at' + n ≤ at2 + n2) : Ch M M1 a at2 n2 := ⟨h.1, h.2.1, fun b j q => h.2.2 b j (by omega)⟩
theorem Ch.wr {M M1 : MM} {a at' : Int} {n : Nat} (h : Ch M M1 a at' n) {i v : Int} (h0 : at' ≤ i) (h1 : i < at' + n) : Ch M (wr M1 a i v) a at' n := ⟨h.1, h.2.1, fun b j q => by rw [rd_wr, if_neg (by omega)]; exact h.2.2 b j q⟩
/-- an array of longs with room for n from at' on -/
def Ar (M : MM) (a at' : Int) (n : Nat) : Prop := 0 ≤ a ∧ a < mN M ∧ (mT M a).1 = 21 ∧ 0 ≤ at' ∧ at' + n ≤ (mT M a).2 ∧ (mT M a).2 < 2147483648
theorem Ar.ok {M : MM} {a at' : Int} {n : Nat} (h : Ar M a at' n) {i : Int} (h0 : at' ≤ i) (h1 : i < at' + n) : okA M a 21 i := ⟨h.1, h.2.1, h.2.2.1, by have := h.2.2.2.1; omega, by have := h.2.2.2.2.1; omega⟩
theorem Ar.ch {M M1 : MM} {a b at' at2 : Int} {n n2 : Nat} (h : Ar M a at' n) (hc : Ch M M1 b at2 n2) : Ar M1 a at' n := by unfold Ar; rw [hc.1, hc.2.1]; exact h
theorem ediv_emod (v : Int) : v % 100000000 + v / 100000000 * 100000000 = v := by omega
section DG
variable {G : GG} {d : Nat} {M : MM} {Q : PV → MM → Prop}
theorem S_X12_add {to at' fr fi by' A B : Int} (hto : Ar M to at' 14) (hfr : Ar M fr fi 14) (hne : to ≠ fr) (nA : nrm (rd M to) at' 14) (vA' : vl (rd M to) at' 14 = A) (nB : nrm (rd M fr) fi 14) (vB : vl (rd M fr) fi 14 = B) (hb : 0 ≤ by' ∧ by' ≤ 10000000000) (hlt : A + B * by' < Bp 14) (hd : 1 ≤ d)
    (h : ∀ M', Ch M M' to at' 14 → nrm (rd M' to) at' 14 → vl (rd M' to) at' 14 = A + B * by' → Q vU M') : C G Y_X12_add d 0 0 [vA to, vI at', vA fr, vI fi, vL by'] M Q := by
  refine C_X12_add (B_X12_add_0 hd ?_)
  have key : ∀ m k : Nat, k + m = 14 → ∀ (Mk : MM) (c : Int), Ch M Mk to at' k → nrm (rd Mk to) at' k → 0 ≤ c → c ≤ 10000000001 → vl (rd Mk to) at' k + c * Bp k = vl (rd M to) at' k + vl (rd M fr) fi k * by' →
      X G Y_X12_add d 0 0 6 [vA to, vI at', vA fr, vI fi, vL by', vU, vL c, vU, vI k, vU, vU] [] Mk Q := by
    intro m
    induction m with
    | zero =>
      intro k hk Mk c hC hn c0 c1 he
      have : k = 14 := by omega
      subst this
      refine B_X12_add_6 hd ⟨⟨by omega, by omega⟩, fun _ => ?_, fun z => by omega⟩
      have hv := vl_lt hn
      rw [vA', vB] at he
      have hz : c = 0 := by
        rcases Int.lt_or_eq_of_le c0 with q | q
        · have : 1 * Bp 14 ≤ c * Bp 14 := Int.mul_le_mul_of_nonneg_right (by omega) (Int.le_of_lt (Bp_pos 14))
          omega
        · exact q.symm
      subst hz
      exact h Mk hC hn (by omega)
    | succ m ih =>
      intro k hk Mk c hC hn c0 c1 he
      have eT : rd Mk to (at' + k) = rd M to (at' + k) := hC.2.2 _ _ (by omega)
      have eF : rd Mk fr (fi + k) = rd M fr (fi + k) := hC.2.2 _ _ (fun q => hne q.1.symm)
      have bT := nA k (by omega) (by omega)
      have bF := nB k (by omega) (by omega)
      refine B_X12_add_6 hd ⟨⟨by omega, by omega⟩, fun z => by omega, fun _ => ⟨(hto.ch hC).ok (by omega) (by omega), (hfr.ch hC).ok (by omega) (by omega), fun v ev => ?_⟩⟩
      rw [eT, eF] at ev
      have b1 : 0 ≤ rd M fr (fi + k) * by' := Int.mul_nonneg bF.1 hb.1
      have b2 : rd M fr (fi + k) * by' ≤ 99999999 * 10000000000 := by
        have q1 : rd M fr (fi + k) * by' ≤ 99999999 * by' := Int.mul_le_mul_of_nonneg_right (by omega) hb.1
        omega
      refine ⟨⟨by omega, by omega⟩, fun M1 e1 v2 e2 => ?_⟩
      rw [Int.tdiv_eq_ediv_of_nonneg (by omega)] at e2
      rw [Int.tmod_eq_emod_of_nonneg (by omega)] at e1
      have hm := ediv_emod v
      have hC1 : Ch M M1 to at' (k + 1 : Nat) := by rw [e1]; exact (hC.mono (by omega) (by omega)).wr (by omega) (by omega)
      have hrd : ∀ i : Int, 0 ≤ i → i < k → rd M1 to (at' + i) = rd Mk to (at' + i) := fun i i0 i1 => by rw [e1, rd_wr, if_neg (by omega)]
      have hrk : rd M1 to (at' + k) = v % 100000000 := by rw [e1, rd_wr, if_pos ⟨rfl, rfl⟩]
      refine ih (k + 1) (by omega) M1 v2 hC1 (fun i i0 i1 => ?_) (by omega) (by omega) ?_
      · by_cases q : i = k
        · subst q; rw [hrk]; omega
        · rw [hrd i i0 (by omega)]; exact hn i i0 (by omega)
      · rw [vl, vl, vl, vl_congr (fun i i0 i1 => hrd i i0 i1), hrk, Bp_s, e2]
        grind
  exact key 14 0 rfl M 0 Ch.rf (fun i h0 h1 => by omega) (by omega) (by omega) (by simp [vl])
theorem S_X12_clear {a at' : Int} (ha : Ar M a at' 14) (hd : 1 ≤ d) (h : ∀ M', Ch M M' a at' 14 → (∀ i : Int, 0 ≤ i → i < 14 → rd M' a (at' + i) = 0) → Q vU M') : C G Y_X12_clear d 0 0 [vA a, vI at'] M Q := by
  refine C_X12_clear (B_X12_clear_0 hd ?_)
  have key : ∀ m k : Nat, k + m = 14 → ∀ (Mk : MM), Ch M Mk a at' 14 → (∀ i : Int, 0 ≤ i → i < k → rd Mk a (at' + i) = 0) → X G Y_X12_clear d 0 0 2 [vA a, vI at', vI k] [] Mk Q := by
    intro m
    induction m with
    | zero =>
      intro k hk Mk hC hz
      refine B_X12_clear_2 hd ⟨⟨by omega, by omega⟩, fun _ => h Mk hC (fun i h0 h1 => hz i h0 (by omega)), fun z => by omega⟩
    | succ m ih =>
      intro k hk Mk hC hz
      refine B_X12_clear_2 hd ⟨⟨by omega, by omega⟩, fun z => by omega, fun _ => ⟨(ha.ch hC).ok (by omega) (by omega), fun M1 e1 => ?_⟩⟩
      refine ih (k + 1) (by omega) M1 (by rw [e1]; exact hC.wr (by omega) (by omega)) (fun i h0 h1 => ?_)
      rw [e1, rd_wr]
      split
      · rfl
      · rename_i q; exact hz i h0 (by omega)
  exact key 14 0 rfl M Ch.rf (fun i h0 h1 => by omega)
/-- the greater limb decides -/
theorem vl_cmp {f g : Int → Int} {a b : Int} {n : Nat} (hf : nrm f a n) (hg : nrm g b n) {k : Nat} (hk : k < n) (he : ∀ i : Int, k < i → i < n → f (a + i) = g (b + i)) (hlt : f (a + k) < g (b + k)) : vl f a n < vl g b n := by
  induction n with
  | zero => omega
  | succ n ih =>
    have hf1 := vl_lt (hf.mono (Nat.le_succ n))
    have hg1 := vl_lt (hg.mono (Nat.le_succ n))
    rw [vl, vl]
    by_cases q : k = n
    · subst q
      have h3 := Bp_pos k
      have : (f (a + k) + 1) * Bp k ≤ g (b + k) * Bp k := Int.mul_le_mul_of_nonneg_right (by omega) (by omega)
      rw [Int.add_mul] at this; omega
    · have := ih (hf.mono (Nat.le_succ n)) (hg.mono (Nat.le_succ n)) (by omega) (fun i i0 i1 => he i i0 (by omega))
      rw [he n (by omega) (by omega)]
      omega
def cmpI (x y : Int) : Int := if x < y then -1 else if x = y then 0 else 1
theorem S_X12_compare {a at' b fi A B : Int} (ha : Ar M a at' 14) (hb : Ar M b fi 14) (nA : nrm (rd M a) at' 14) (vA' : vl (rd M a) at' 14 = A) (nB : nrm (rd M b) fi 14) (vB : vl (rd M b) fi 14 = B) (hd : 1 ≤ d)
    (h : Q (vI (cmpI A B)) M) : C G Y_X12_compare d 0 0 [vA a, vI at', vA b, vI fi] M Q := by
  refine C_X12_compare (B_X12_compare_0 hd ?_)
  have key : ∀ k : Nat, k ≤ 14 → (∀ i : Int, k ≤ i → i < 14 → rd M a (at' + i) = rd M b (fi + i)) → X G Y_X12_compare d 0 0 4 [vA a, vI at', vA b, vI fi, vI ((k : Int) - 1)] [] M Q := by
    intro k
    induction k with
    | zero =>
      intro _ he
      refine B_X12_compare_4 hd ⟨⟨by omega, by omega⟩, fun _ => ?_, fun z => by omega⟩
      have : A = B := by rw [← vA', ← vB]; exact vl_congr (fun i i0 i1 => he i (by omega) (by omega))
      unfold cmpI at h
      rw [if_neg (by omega), if_pos this] at h
      exact h
    | succ k ih =>
      intro hk he
      have bA := nA k (by omega) (by omega)
      have bB := nB k (by omega) (by omega)
      have ek : (((k + 1 : Nat) : Int) - 1) = k := by omega
      rw [ek]
      refine B_X12_compare_4 hd ⟨⟨by omega, by omega⟩, fun z => by omega, fun _ => ⟨ha.ok (by omega) (by omega), hb.ok (by omega) (by omega), ⟨by omega, by omega⟩, ⟨by omega, by omega⟩, fun q => ?_, fun q => ?_⟩⟩
      · rw [show (k : Int) + (-1) = k - 1 by omega]
        exact ih (by omega) (fun i i0 i1 => by
          by_cases z : i = k
          · subst z; exact q
          · exact he i (by omega) i1)
      · by_cases z : rd M b (fi + k) ≤ rd M a (at' + k)
        · rw [if_pos z]
          have := vl_cmp nB nA (k := k) (by omega) (fun i i0 i1 => (he i (by omega) (by omega)).symm) (by omega)
          unfold cmpI at h
          rw [if_neg (by omega), if_neg (by omega)] at h
          exact h
        · rw [if_neg z]
          have := vl_cmp nA nB (k := k) (by omega) (fun i i0 i1 => he i (by omega) (by omega)) (by omega)
          unfold cmpI at h
          rw [if_pos (by omega)] at h
          exact h
  exact key 14 (by omega) (fun i i0 i1 => by omega)
end DG
