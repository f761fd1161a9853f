theorem refL_ob : ∀ p ∈ refL, 0 ≤ p.1 ∧ (shp p.1).1 < 12 := by decide +kernel
theorem Sh.ch {M M' : MM} {a at' : Int} {n : Nat} (h : Sh M) (hc : Ch M M' a at' n) (hk : 20 ≤ (mT M a).1) : Sh M' := by
  refine ⟨by rw [hc.1]; exact h.1, fun b h0 h1 => by rw [hc.2.1]; exact h.2.1 b h0 h1, fun p hp => ?_⟩
  rw [hc.2.2 _ _ (fun q => ?_)]
  · exact h.2.2 p hp
  · have h1 := refL_ob p hp
    have h2 := h.2.1 p.1 h1.1 (refL_lt p hp)
    rw [q.1] at h2
    rw [h2, ← q.1] at hk
    omega
theorem Sh.Ar {M : MM} (h : Sh M) (a len : Int) {at' : Int} {n : Nat} (hk : shp a = (21, len)) (h0 : 0 ≤ a ∧ a < 94 ∧ 0 ≤ at' ∧ len < 2147483648) (h1 : at' + n ≤ len) : Ar M a at' n := by
  have h2 := h.2.1 a h0.1 h0.2.1
  rw [hk] at h2
  refine ⟨h0.1, Int.lt_of_lt_of_le h0.2.1 h.1, by rw [h2], h0.2.2.1, by rw [h2]; exact h1, by rw [h2]; exact h0.2.2.2⟩
/-- how likely it is that k of n stay, in 100 multiplied five times: as the class finds it -/
def spF (n c : Int) : Nat → Int → Int
  | 0, k => if k = 0 then (100 : Int) ^ (5 - n).toNat else 0
  | q + 1, k => spF n c q k * (100 - c) + (if 0 < k then spF n c q (k - 1) * c else 0)
/-- as the model finds it -/
def ovF (n k : Int) : Nat → Int
  | 0 => 1
  | i + 1 => Int.tdiv (ovF n k i * ((n - k) + ((i : Int) + 1))) ((i : Int) + 1)
def pwF (v c left : Int) : Nat → Int
  | 0 => v
  | k + 1 => pwF v c left k * (if (k : Int) < left then c else 100 - c)
def huF (v : Int) : Nat → Int
  | 0 => v
  | k + 1 => huF v k * 100
def stM (n c left : Int) : Int := huF (pwF (ovF n left left.toNat) c left n.toNat) (5 - n).toNat
/-- the one number -/
def stv (n c k : Int) : Int := spF n c n.toNat k
theorem stv_M {n c k : Int} (n0 : 0 ≤ n) (n1 : n < 6) (c0 : 0 ≤ c) (c1 : c < 101) (k0 : 0 ≤ k) (k1 : k < 6) : k ≤ n → stM n c k = stv n c k :=
  fin3 (P := fun n c k => k ≤ n → stM n c k = stv n c k) 6 101 6 (by decide +kernel) n0 n1 c0 c1 k0 k1
theorem stv_ok {n c k : Int} (n0 : 0 ≤ n) (n1 : n < 6) (c0 : 0 ≤ c) (c1 : c < 101) (k0 : 0 ≤ k) (k1 : k < 6) : 0 ≤ stv n c k ∧ stv n c k ≤ 10000000000 :=
  fin3 (P := fun n c k => 0 ≤ stv n c k ∧ stv n c k ≤ 10000000000) 6 101 6 (by decide +kernel) n0 n1 c0 c1 k0 k1
theorem stv_sum {n c : Int} (n0 : 0 ≤ n) (n1 : n < 6) (c0 : 0 ≤ c) (c1 : c < 101) : sumTo (fun k => stv n c k) (n.toNat + 1) = 10000000000 :=
  fin2 (P := fun n c => sumTo (fun k => stv n c k) (n.toNat + 1) = 10000000000) 6 101 (by decide +kernel) n0 n1 c0 c1
theorem spF_ok {n c q k : Int} (n0 : 0 ≤ n) (n1 : n < 6) (c0 : 0 ≤ c) (c1 : c < 101) (q0 : 0 ≤ q) (q1 : q < 6) (k0 : 0 ≤ k) (k1 : k < 6) : q ≤ n → 0 ≤ spF n c q.toNat k ∧ spF n c q.toNat k ≤ 10000000000 :=
  finI (P := fun n => q ≤ n → 0 ≤ spF n c q.toNat k ∧ spF n c q.toNat k ≤ 10000000000) 6 (fun i => fin3 (P := fun c q k => q ≤ i.val → 0 ≤ spF i.val c q.toNat k ∧ spF i.val c q.toNat k ≤ 10000000000) 101 6 6 (by revert i; decide +kernel) c0 c1 q0 q1 k0 k1) n0 n1
theorem spF_zero {n c : Int} : ∀ (q : Nat) (k : Int), (q : Int) < k → spF n c q k = 0
  | 0, k, hk => by rw [spF, if_neg (by omega)]
  | q + 1, k, hk => by rw [spF, spF_zero q k (by omega), if_pos (by omega), spF_zero q (k - 1) (by omega)]; simp
section DG3
variable {G : GG} {d : Nat} {M : MM} {Q : PV → MM → Prop}
theorem S_X2_spread {a n c : Int} (ha : Ar M a 0 6) (hn : 0 ≤ n ∧ n < 6) (hc : 0 ≤ c ∧ c < 101) (hd : 1 ≤ d)
    (h : ∀ M', Ch M M' a 0 6 → (∀ k : Int, 0 ≤ k → k ≤ n → rd M' a k = stv n c k) → Q vU M') : C G Y_X2_spread d 0 0 [vA a, vI n, vI c] M Q := by
  refine C_X2_spread (B_X2_spread_0 hd ⟨ha.ok (by omega) (by omega), fun M1 e1 => ?_⟩)
  have k6 : ∀ m i : Nat, (i : Int) + m = 5 → n ≤ i → ∀ Mk, Ch M Mk a 0 6 → rd Mk a 0 = (100 : Int) ^ (i - n.toNat) → (∀ M2, Ch M M2 a 0 6 → rd M2 a 0 = (100 : Int) ^ (5 - n).toNat → X G Y_X2_spread d 0 0 28 [vA a, vI n, vI c, vI 1, vU, vU, vU] [] M2 Q) → X G Y_X2_spread d 0 0 6 [vA a, vI n, vI c, vI i, vU, vU, vU] [] Mk Q := by
    intro m
    induction m with
    | zero =>
      intro i hi hni Mk hC hv hk
      refine B_X2_spread_6 hd ⟨⟨by omega, by omega⟩, fun _ => hk Mk hC (by rw [hv]; congr 1; omega), fun z => by omega⟩
    | succ m ih =>
      intro i hi hni Mk hC hv hk
      refine B_X2_spread_6 hd ⟨⟨by omega, by omega⟩, fun z => by omega, fun _ => ⟨(ha.ch hC).ok (by omega) (by omega), fun M3 e3 => ?_⟩⟩
      refine ih (i + 1) (by omega) (by omega) M3 (by rw [e3]; exact hC.wr (by omega) (by omega)) ?_ hk
      rw [e3, rd_wr, if_pos ⟨rfl, rfl⟩, hv, show i + 1 - n.toNat = (i - n.toNat) + 1 by omega, Int.pow_succ]
  have k40 : ∀ (q : Nat), (q : Int) < n → ∀ m : Nat, m ≤ q + 2 → ∀ Mk, Ch M Mk a 0 6 → (∀ k : Int, m ≤ k → k ≤ q + 1 → rd Mk a k = spF n c (q + 1) k) → (∀ k : Int, 0 ≤ k → k < m → rd Mk a k = spF n c q k) →
      (∀ M2, Ch M M2 a 0 6 → (∀ k : Int, 0 ≤ k → k ≤ q + 1 → rd M2 a k = spF n c (q + 1) k) → X G Y_X2_spread d 0 0 28 [vA a, vI n, vI c, vI (((q + 1 : Nat) : Int) + 1), vU, vU, vU] [] M2 Q) → X G Y_X2_spread d 0 0 40 [vA a, vI n, vI c, vI ((q + 1 : Nat) : Int), vI ((m : Int) - 1), vU, vU] [] Mk Q := by
    intro q hq m
    induction m with
    | zero =>
      intro _ Mk hC hv _ hk
      refine B_X2_spread_40 hd ⟨⟨by omega, by omega⟩, fun _ => hk Mk hC (fun k k0 k1 => hv k (by omega) k1), fun z => by omega⟩
    | succ m ih =>
      intro hm Mk hC hv hold hk
      have ek : (((m + 1 : Nat) : Int) - 1) = m := by omega
      rw [ek]
      have go : ∀ M3, M3 = wr Mk a m (spF n c (q + 1) m) → X G Y_X2_spread d 0 0 40 [vA a, vI n, vI c, vI ((q + 1 : Nat) : Int), vI ((m : Int) + (-1)), vU, vU] [] M3 Q := by
        intro M3 e3
        rw [show (m : Int) + (-1) = m - 1 by omega]
        refine ih (by omega) M3 (by rw [e3]; exact hC.wr (by omega) (by omega)) (fun k k0 k1 => ?_) (fun k k0 k1 => ?_) hk
        · rw [e3, rd_wr]
          split
          · rename_i z; rw [z.2]
          · rename_i z; exact hv k (by omega) k1
        · rw [e3, rd_wr, if_neg (by omega)]; exact hold k k0 (by omega)
      have hm0 := hold m (by omega) (by omega)
      refine B_X2_spread_40 hd ⟨⟨by omega, by omega⟩, fun z => by omega, fun _ => ⟨fun z => ⟨(ha.ch hC).ok (by omega) (by omega), ⟨by omega, by omega⟩, fun M3 e3 => go M3 ?_⟩, fun z => ⟨(ha.ch hC).ok (by omega) (by omega), ⟨by omega, by omega⟩, fun v ev => ⟨(ha.ch hC).ok (by omega) (by omega), ⟨by omega, by omega⟩, fun M3 e3 => go M3 ?_⟩⟩⟩⟩
      · rw [e3, hm0, spF, if_neg (by omega)]
      · rw [e3, hm0, spF, if_pos (by omega), ev, hold (m - 1) (by omega) (by omega)]
  have k28 : ∀ m q : Nat, (q : Int) + m = n → ∀ Mk, Ch M Mk a 0 6 → (∀ k : Int, 0 ≤ k → k ≤ q → rd Mk a k = spF n c q k) → X G Y_X2_spread d 0 0 28 [vA a, vI n, vI c, vI ((q : Int) + 1), vU, vU, vU] [] Mk Q := by
    intro m
    induction m with
    | zero =>
      intro q hq Mk hC hv
      refine B_X2_spread_28 hd ⟨⟨by omega, by omega⟩, ⟨by omega, by omega⟩, fun _ => h Mk hC (fun k k0 k1 => ?_), fun z => by omega⟩
      have : q = n.toNat := by omega
      subst this
      exact hv k k0 (by omega)
    | succ m ih =>
      intro q hq Mk hC hv
      refine B_X2_spread_28 hd ⟨⟨by omega, by omega⟩, ⟨by omega, by omega⟩, fun z => by omega, fun _ => ⟨(ha.ch hC).ok (by omega) (by omega), fun M4 e4 => ?_⟩⟩
      have hz : ∀ k : Int, (q : Int) < k → spF n c q k = 0 := fun k hk => spF_zero q k hk
      have := k40 q (by omega) (q + 2) (Nat.le_refl _) M4 (by rw [e4]; exact hC.wr (by omega) (by omega)) (fun k k0 k1 => by omega) (fun k k0 k1 => by
        rw [e4, rd_wr]
        split
        · rename_i z; rw [hz k (by omega)]
        · rename_i z; exact hv k k0 (by omega)) (fun M2 hC2 hv2 => ih (q + 1) (by omega) M2 hC2 (fun k k0 k1 => hv2 k k0 (by omega)))
      rw [show (((q + 2 : Nat) : Int) - 1) = (q : Int) + 1 by omega] at this
      exact this
  have := k6 (5 - n.toNat) n.toNat (by omega) (by omega) M1 (by rw [e1]; exact Ch.rf.wr (by omega) (by omega)) (by rw [e1, rd_wr, if_pos ⟨rfl, rfl⟩]; simp) (fun M2 hC2 hv2 => k28 n.toNat 0 (by omega) M2 hC2 (fun k k0 k1 => by
    have : k = 0 := by omega
    subst this
    rw [hv2]; rfl))
  rw [show ((n.toNat : Nat) : Int) = n by omega] at this
  exact this
theorem ovF_ok {n k i : Int} (n0 : 0 ≤ n) (n1 : n < 6) (k0 : 0 ≤ k) (k1 : k < 6) (i0 : 0 ≤ i) (i1 : i < 6) : k ≤ n → i ≤ k → 0 ≤ ovF n k i.toNat ∧ ovF n k i.toNat ≤ 1000 :=
  fin3 (P := fun n k i => k ≤ n → i ≤ k → 0 ≤ ovF n k i.toNat ∧ ovF n k i.toNat ≤ 1000) 6 6 6 (by decide +kernel) n0 n1 k0 k1 i0 i1
theorem S_X12_over {n k : Int} (hn : 0 ≤ n ∧ n < 6) (hk : 0 ≤ k ∧ k ≤ n) (hd : 1 ≤ d) (h : Q (vL (ovF n k k.toNat)) M) : C G Y_X12_over d 0 0 [vI n, vI k] M Q := by
  refine C_X12_over (B_X12_over_0 hd ?_)
  have key : ∀ m i : Nat, (i : Int) + m = k → X G Y_X12_over d 0 0 5 [vI n, vI k, vL (ovF n k i), vU, vI ((i : Int) + 1)] [] M Q := by
    intro m
    induction m with
    | zero =>
      intro i hi
      refine B_X12_over_5 hd ⟨⟨by omega, by omega⟩, ⟨by omega, by omega⟩, fun _ => ?_, fun z => by omega⟩
      have : i = k.toNat := by omega
      subst this; exact h
    | succ m ih =>
      intro i hi
      have hb := ovF_ok (i := i) hn.1 hn.2 hk.1 (by omega) (by omega) (by omega) hk.2 (by omega)
      rw [show ((i : Int)).toNat = i by omega] at hb
      have hm0 : 0 ≤ ovF n k i * ((n - k) + ((i : Int) + 1)) := Int.mul_nonneg hb.1 (by omega)
      have hm1 : ovF n k i * ((n - k) + ((i : Int) + 1)) ≤ 1000 * ((n - k) + ((i : Int) + 1)) := Int.mul_le_mul_of_nonneg_right hb.2 (by omega)
      refine B_X12_over_5 hd ⟨⟨by omega, by omega⟩, ⟨by omega, by omega⟩, fun z => by omega, fun _ => ⟨⟨by omega, by omega⟩, ⟨by omega, by omega⟩, by omega, fun v ev => ?_⟩⟩
      have := ih (i + 1) (by omega)
      rw [ovF, ← ev] at this
      exact this
  exact key k.toNat 0 (by omega)
theorem S_fillL {a v len : Int} (ha : okO M a 21) (hl : (mT M a).2 = len) (hb : 0 ≤ len ∧ len < 2147483648) (hd : 1 ≤ d) (h : ∀ M', Ch M M' a 0 len.toNat → (∀ i : Int, 0 ≤ i → i < len → rd M' a i = v) → Q vU M') : C G Y_J7_fill_d0a16 d 0 0 [vA a, vL v] M Q := by
  refine C_J7_fill_d0a16 (B_J7_fill_d0a16_0 hd ⟨ha, fun w ew => ?_⟩)
  rw [hl] at ew
  subst ew
  have key : ∀ m k : Nat, (k : Int) + m = w → ∀ Mk, Ch M Mk a 0 w.toNat → (∀ i : Int, 0 ≤ i → i < k → rd Mk a i = v) → X G Y_J7_fill_d0a16 d 0 0 6 [vA a, vL v, vU, vI k, vI w] [] Mk Q := by
    intro m
    induction m with
    | zero =>
      intro k hk Mk hC hv
      exact B_J7_fill_d0a16_6 hd ⟨⟨by omega, by omega⟩, ⟨by omega, by omega⟩, fun _ => h Mk hC (fun i i0 i1 => hv i i0 (by omega)), fun z => by omega⟩
    | succ m ih =>
      intro k hk Mk hC hv
      refine B_J7_fill_d0a16_6 hd ⟨⟨by omega, by omega⟩, ⟨by omega, by omega⟩, fun z => by omega, fun _ => ⟨⟨ha.1, by rw [hC.1]; exact ha.2.1, by rw [hC.2.1]; exact ha.2.2, by omega, by rw [hC.2.1, hl]; omega⟩, fun M4 e4 => ?_⟩⟩
      refine ih (k + 1) (by omega) M4 (by rw [e4]; exact hC.wr (by omega) (by omega)) (fun i i0 i1 => ?_)
      rw [e4, rd_wr]
      split
      · rfl
      · exact hv i i0 (by omega)
  exact key w.toNat 0 (by omega) M Ch.rf (fun i i0 i1 => by omega)
theorem S_fillI {a v len : Int} (ha : okO M a 20) (hl : (mT M a).2 = len) (hb : 0 ≤ len ∧ len < 2147483648) (hd : 1 ≤ d) (h : ∀ M', Ch M M' a 0 len.toNat → (∀ i : Int, 0 ≤ i → i < len → rd M' a i = v) → Q vU M') : C G Y_J7_fill_53178 d 0 0 [vA a, vI v] M Q := by
  refine C_J7_fill_53178 (B_J7_fill_53178_0 hd ⟨ha, fun w ew => ?_⟩)
  rw [hl] at ew
  subst ew
  have key : ∀ m k : Nat, (k : Int) + m = w → ∀ Mk, Ch M Mk a 0 w.toNat → (∀ i : Int, 0 ≤ i → i < k → rd Mk a i = v) → X G Y_J7_fill_53178 d 0 0 5 [vA a, vI v, vI k, vI w] [] Mk Q := by
    intro m
    induction m with
    | zero =>
      intro k hk Mk hC hv
      exact B_J7_fill_53178_5 hd ⟨⟨by omega, by omega⟩, ⟨by omega, by omega⟩, fun _ => h Mk hC (fun i i0 i1 => hv i i0 (by omega)), fun z => by omega⟩
    | succ m ih =>
      intro k hk Mk hC hv
      refine B_J7_fill_53178_5 hd ⟨⟨by omega, by omega⟩, ⟨by omega, by omega⟩, fun z => by omega, fun _ => ⟨⟨ha.1, by rw [hC.1]; exact ha.2.1, by rw [hC.2.1]; exact ha.2.2, by omega, by rw [hC.2.1, hl]; omega⟩, fun M4 e4 => ?_⟩⟩
      refine ih (k + 1) (by omega) M4 (by rw [e4]; exact hC.wr (by omega) (by omega)) (fun i i0 i1 => ?_)
      rw [e4, rd_wr]
      split
      · rfl
      · exact hv i i0 (by omega)
  exact key w.toNat 0 (by omega) M Ch.rf (fun i i0 i1 => by omega)
theorem S_rangeCheck {len a b : Int} (h0 : 0 ≤ a ∧ a ≤ b ∧ b ≤ len ∧ len < 2147483648) (hd : 1 ≤ d) (h : Q vU M) : C G Y_J7_rangeCheck_23922 d 0 0 [vI len, vI a, vI b] M Q :=
  C_J7_rangeCheck_23922 (B_J7_rangeCheck_23922_0 hd ⟨⟨by omega, by omega⟩, ⟨by omega, by omega⟩, fun _ => ⟨fun _ => ⟨⟨by omega, by omega⟩, fun _ => h, fun z => by omega⟩, fun z => by omega⟩, fun z => by omega⟩)
/-- ten to the power of twenty for each scene that is left -/
def sc (p : Int) : Int := (100000000000000000000 : Int) ^ (5 - p).toNat
theorem S_X12_addNumber {a v no A T : Int} (ha : Ar M a 0 14) (nA : nrm (rd M a) 0 14) (vA' : vl (rd M a) 0 14 = A) (hv : 0 ≤ v ∧ v ≤ 10000000000) (hno : 0 ≤ no ∧ no < 112) (hT : T = A + v * ((if no % 8 = 0 then 1 else 10000) * Bp (no / 8).toNat)) (hlt : T < Bp 14) (hd : 1 ≤ d)
    (h : ∀ M', Ch M M' a 0 14 → nrm (rd M' a) 0 14 → vl (rd M' a) 0 14 = T → Q vU M') : C G Y_X12_addNumber d 0 0 [vA a, vL v, vI no] M Q := by
  refine C_X12_addNumber (B_X12_addNumber_0 hd ?_)
  rw [Int.tdiv_eq_ediv_of_nonneg hno.1, Int.tmod_eq_emod_of_nonneg hno.1]
  refine ⟨⟨by omega, by omega⟩, ⟨by omega, by omega⟩, fun c ec k ek => ?_⟩
  have upd : ∀ (f : Int → Int) (k : Nat) (x : Int), k < 14 → vl (fun i => if i = k then x else f i) 0 14 = vl f 0 14 + (x - f k) * Bp k := by
    intro f k x hk
    have gen : ∀ n : Nat, vl (fun i => if i = (k : Int) then x else f i) 0 n = vl f 0 n + (if k < n then (x - f k) * Bp k else 0) := by
      intro n
      induction n with
      | zero => simp [vl]
      | succ n ih =>
        rw [vl, vl, ih, Int.zero_add]
        by_cases q : n = k
        · subst q
          rw [if_pos rfl, if_neg (by omega), if_pos (by omega)]
          grind
        · have e1 : (if (n : Int) = (k : Int) then x else f n) = f n := if_neg (by omega)
          rw [e1]
          by_cases z : k < n
          · rw [if_pos z, if_pos (by omega)]; omega
          · rw [if_neg z, if_neg (by omega)]; omega
    have := gen 14
    rw [if_pos hk] at this
    exact this
  have key : ∀ m k : Nat, k + m = 14 → ∀ (Mk : MM) (c : Int), Ch M Mk a 0 14 → nrm (rd Mk a) 0 14 → 0 ≤ c → c ≤ 1000000000000000 → vl (rd Mk a) 0 14 + c * Bp k = T → ∀ x1 x3 : Int, X G Y_X12_addNumber d 0 0 24 [vA a, vL x1, vU, vI x3, vL c, vU, vI k, vU, vU] [] Mk Q := by
    intro m
    induction m with
    | zero =>
      intro k hk Mk c hC hn c0 c1 he x1 x3
      have : k = 14 := by omega
      subst this
      refine B_X12_addNumber_24 hd ⟨⟨by omega, by omega⟩, ⟨by omega, by omega⟩, fun _ => ?_, fun z => by omega⟩
      have hv2 := vl_lt hn
      have hz : c = 0 := by
        rcases Int.lt_or_eq_of_le c0 with q | q
        · have : 1 * Bp 14 ≤ c * Bp 14 := Int.mul_le_mul_of_nonneg_right (by omega) (Int.le_of_lt (Bp_pos 14))
          omega
        · exact q.symm
      subst hz
      exact h Mk hC hn (by omega)
    | succ m ih =>
      intro k hk Mk c hC hn c0 c1 he x1 x3
      have bT := hn k (by omega) (by omega)
      rw [Int.zero_add] at bT
      refine B_X12_addNumber_24 hd ⟨⟨by omega, by omega⟩, ⟨by omega, by omega⟩, fun z => ?_, fun z => ⟨(ha.ch hC).ok (by omega) (by omega), fun w ew => ⟨⟨by omega, by omega⟩, fun M1 e1 w2 e2 => ?_⟩⟩⟩
      · have : c = 0 := by omega
        subst this
        exact h Mk hC hn (by omega)
      · rw [Int.tdiv_eq_ediv_of_nonneg (by omega)] at e2
        rw [Int.tmod_eq_emod_of_nonneg (by omega)] at e1
        have hm := ediv_emod w
        have hf : rd M1 a = fun i => if i = (k : Int) then w % 100000000 else rd Mk a i := by
          funext i; rw [e1, rd_wr]
          by_cases q : i = k
          · rw [if_pos ⟨rfl, q⟩, if_pos q]
          · rw [if_neg (fun z => q z.2), if_neg q]
        refine ih (k + 1) (by omega) M1 w2 (by rw [e1]; exact hC.wr (by omega) (by omega)) (fun i i0 i1 => ?_) (by omega) (by omega) ?_ x1 x3
        · have e3 : rd M1 a (0 + i) = if 0 + i = (k : Int) then w % 100000000 else rd Mk a (0 + i) := by rw [hf]
          rw [e3]
          split
          · omega
          · exact hn i i0 i1
        · rw [hf, upd _ _ _ (by omega), Bp_s, e2]
          grind
  have hc : 0 ≤ c ∧ c ≤ 100000000000000 := by
    rw [ec]; split <;> omega
  have := key (14 - k.toNat) k.toNat (by omega) M c Ch.rf nA hc.1 (by omega) (by
    rw [hT, vA', ek, ec]
    by_cases q : no % 8 = 0
    · rw [if_pos q, if_neg (by omega), Int.one_mul]
    · rw [if_neg q, if_pos q]; grind) v no
  rw [show ((k.toNat : Nat) : Int) = k by omega] at this
  exact this
end DG3
