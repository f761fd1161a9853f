/-! ===== heads that were counted: pure ===== -/
theorem sumTo_upd {f g : Int → Int} {q δ : Int} (q0 : 0 ≤ q) (hq : g q = f q + δ) (hne : ∀ k : Int, k ≠ q → g k = f k) : ∀ {n : Nat}, sumTo g n = sumTo f n + (if q < n then δ else 0)
  | 0 => by rw [if_neg (by omega)]; rfl
  | n + 1 => by
    rw [sumTo, sumTo, sumTo_upd q0 hq hne (n := n)]
    by_cases e : (n : Int) = q
    · rw [e, hq, if_neg (by omega), if_pos (by omega)]; omega
    · rw [hne _ e]
      by_cases w : q < n
      · rw [if_pos w, if_pos (by omega)]; omega
      · rw [if_neg w, if_neg (by omega)]; omega
def hdN (r : Int → Int) (i : Int) : Int := if i = 0 then r 5 else r (55 + (i - 1))
def hdF (r : Int → Int) : Int → Int := fun i => r (50 + i)
/-- what it is worth to be z and o ahead of the i-th counted scene, m of them to come -/
def bwG (r : Int → Int) (sm : Int → LSm) : Nat → Int → Int → Int → Int
  | 0, _, _, _ => 1
  | m + 1, i, z, o => sumTo (fun a => if 0 ≤ hdN r (i + 1) - a ∧ hdN r (i + 1) - a ≤ o then stv z (chn r sm 0 (hdF r i) (pfx (hdF r) i.toNat) (lat (hdF r) i.toNat) z o) a * (stv o (chn r sm 1 (hdF r i) (pfx (hdF r) i.toNat) (lat (hdF r) i.toNat) z o) (hdN r (i + 1) - a) * bwG r sm m (i + 1) a (hdN r (i + 1) - a)) else 0) (z.toNat + 1)
def tnP (m : Nat) : Int := (100000000000000000000 : Int) ^ m
theorem tnP_s (m : Nat) : tnP (m + 1) = tnP m * 100000000000000000000 := Int.pow_succ ..
theorem tnP_pos (m : Nat) : 0 < tnP m := Int.pow_pos (by decide)
theorem bwG_ok {r : Int → Int} {sm : Int → LSm} : ∀ (m : Nat) (i z o : Int), 0 ≤ z → z < 6 → 0 ≤ o → o < 6 → 0 ≤ bwG r sm m i z o ∧ bwG r sm m i z o ≤ tnP m
  | 0, _, _, _, _, _, _, _ => by simp [bwG, tnP]
  | m + 1, i, z, o, z0, z1, o0, o1 => by
    rw [bwG]
    generalize hc0 : chn r sm 0 (hdF r i) (pfx (hdF r) i.toNat) (lat (hdF r) i.toNat) z o = c0
    generalize hc1 : chn r sm 1 (hdF r i) (pfx (hdF r) i.toNat) (lat (hdF r) i.toNat) z o = c1
    have k0 : 0 ≤ c0 ∧ c0 ≤ 100 := by rw [← hc0]; exact chn_ok
    have k1 : 0 ≤ c1 ∧ c1 ≤ 100 := by rw [← hc1]; exact chn_ok
    have hp := tnP_pos m
    have key := sumTo_mul_le (f := fun a => stv z c0 a) (U := fun a => if 0 ≤ hdN r (i + 1) - a ∧ hdN r (i + 1) - a ≤ o then stv o c1 (hdN r (i + 1) - a) * bwG r sm m (i + 1) a (hdN r (i + 1) - a) else 0) (B := 10000000000 * tnP m) (n := z.toNat + 1) (fun a a0 a1 => ⟨(stv_ok z0 z1 k0.1 (by omega) a0 (by omega)).1, by
      split
      · rename_i w
        have s1 := stv_ok o0 o1 k1.1 (show c1 < 101 by omega) w.1 (by omega)
        have g1 := bwG_ok (r := r) (sm := sm) m (i + 1) a (hdN r (i + 1) - a) a0 (by omega) w.1 (by omega)
        exact mul_le s1.1 s1.2 g1.1 g1.2
      · exact ⟨Int.le_refl 0, by omega⟩⟩)
    rw [stv_sum z0 z1 k0.1 (by omega)] at key
    have e : sumTo (fun a => if 0 ≤ hdN r (i + 1) - a ∧ hdN r (i + 1) - a ≤ o then stv z c0 a * (stv o c1 (hdN r (i + 1) - a) * bwG r sm m (i + 1) a (hdN r (i + 1) - a)) else 0) (z.toNat + 1) = sumTo (fun a => stv z c0 a * (if 0 ≤ hdN r (i + 1) - a ∧ hdN r (i + 1) - a ≤ o then stv o c1 (hdN r (i + 1) - a) * bwG r sm m (i + 1) a (hdN r (i + 1) - a) else 0)) (z.toNat + 1) := by
      refine sumTo_congr (fun a a0 a1 => ?_)
      split
      · rfl
      · rw [Int.mul_zero]
    rw [e, tnP_s]
    refine ⟨key.1, ?_⟩
    have := key.2
    omega
/-- so many ways -/
def wyG (r : Int → Int) (sm : Int → LSm) (m : Nat) (i z : Int) : Int := if z ≤ hdN r i ∧ hdN r i - z ≤ 5 then bwG r sm m i z (hdN r i - z) else 0
def wyT (r : Int → Int) (sm : Int → LSm) : Int := sumTo (fun z => wyG r sm (r 4).toNat 0 z) 6
def weV (r : Int → Int) (sm : Int → LSm) (many : Int) : Int := if wyT r sm = 0 then -1 else wyG r sm (r 4).toNat 0 many * 1000000 / wyT r sm
theorem wyG_ok {r : Int → Int} {sm : Int → LSm} (m : Nat) (i : Int) {z : Int} (z0 : 0 ≤ z) (z1 : z < 6) : 0 ≤ wyG r sm m i z ∧ wyG r sm m i z ≤ tnP m := by
  unfold wyG
  have := tnP_pos m
  split
  · exact bwG_ok m i z _ z0 z1 (by omega) (by omega)
  · omega
theorem wyT_ok {r : Int → Int} {sm : Int → LSm} (hV : RS r) : 0 ≤ wyT r sm ∧ wyT r sm ≤ 6 * tnP 5 ∧ ∀ z : Int, 0 ≤ z → z < 6 → wyG r sm (r 4).toNat 0 z ≤ wyT r sm := by
  obtain ⟨_, _, _, _, _, _, _, _, _, _, _, _, _, _, _, _, _, _, h4, h4', _⟩ := hV
  have ht : tnP (r 4).toNat ≤ tnP 5 := by
    have : (r 4).toNat = 0 ∨ (r 4).toNat = 1 ∨ (r 4).toNat = 2 ∨ (r 4).toNat = 3 ∨ (r 4).toNat = 4 ∨ (r 4).toNat = 5 := by omega
    rcases this with e | e | e | e | e | e <;> rw [e] <;> decide +kernel
  have g := fun z (a : 0 ≤ z) (b : z < 6) => wyG_ok (r := r) (sm := sm) (r 4).toNat 0 (z := z) a b
  have g0 := g 0 (by decide) (by decide)
  have g1 := g 1 (by decide) (by decide)
  have g2 := g 2 (by decide) (by decide)
  have g3 := g 3 (by decide) (by decide)
  have g4 := g 4 (by decide) (by decide)
  have g5 := g 5 (by decide) (by decide)
  have e : wyT r sm = wyG r sm (r 4).toNat 0 0 + wyG r sm (r 4).toNat 0 1 + wyG r sm (r 4).toNat 0 2 + wyG r sm (r 4).toNat 0 3 + wyG r sm (r 4).toNat 0 4 + wyG r sm (r 4).toNat 0 5 := by
    simp [wyT, sumTo]
  refine ⟨by omega, by omega, fun z z0 z1 => ?_⟩
  have : z = 0 ∨ z = 1 ∨ z = 2 ∨ z = 3 ∨ z = 4 ∨ z = 5 := by omega
  rcases this with rfl | rfl | rfl | rfl | rfl | rfl <;> omega
theorem mnO_sb {r : Int → Int} (hV : RS r) {p s : Int} (hp : 0 ≤ p ∧ p < 32) (hs : 0 ≤ s ∧ s < r 0) (hb : bt p s = 0) : mnO r (sb p s) = mnO r p + r (10 + 3 * s) := by
  have n0 := hV.1
  have n5 := hV.2.1
  unfold mnO
  have e : ∀ k : Int, 0 ≤ k → k < (r 0).toNat → (fun q => if bt (sb p s) q = 1 then r (10 + 3 * q) else 0) k = (fun q => if q = s then r (10 + 3 * s) else if bt p q = 1 then r (10 + 3 * q) else 0) k := fun k k0 k1 => by
    dsimp only
    rw [sb_bt hp.1 hp.2 hs.1 (by omega) k0 (by omega)]
    by_cases w : k = s
    · rw [if_pos w, if_pos w, if_pos rfl, w]
    · rw [if_neg w, if_neg w]
  rw [sumTo_congr e]
  have u := sumTo_upd (f := fun q => if bt p q = 1 then r (10 + 3 * q) else 0) (g := fun q => if q = s then r (10 + 3 * s) else if bt p q = 1 then r (10 + 3 * q) else 0) (q := s) (δ := r (10 + 3 * s)) hs.1 (by rw [if_pos rfl, hb, if_neg (by decide)]; omega) (fun k w => if_neg w) (n := (r 0).toNat)
  rw [u, if_pos (by omega)]
/-- the counted scenes -/
theorem hd_ok {r : Int → Int} (hV : RS r) : RowOk (hdF r) (r 4) ∧ (0 ≤ r 4 ∧ r 4 ≤ 5) ∧ (∀ i : Int, 0 ≤ i → i < r 4 → 0 ≤ hdF r i ∧ hdF r i < r 0) ∧ (r 5 ≠ -1 → ∀ i : Int, 0 ≤ i → i ≤ r 4 → 0 ≤ hdN r i ∧ hdN r i ≤ 10) := by
  have n5 := hV.2.1
  obtain ⟨_, _, _, _, _, _, _, _, _, _, _, _, _, _, _, _, _, _, h4, h4', h5, h5', _, hb, hb2⟩ := hV
  refine ⟨⟨fun i i0 i1 => ?_, fun i j i0 ij j1 => hb2 i j i0 ij j1⟩, ⟨h4, h4'⟩, fun i i0 i1 => ?_, fun hne i i0 i1 => ?_⟩
  · have := hb i i0 i1; unfold hdF; omega
  · have := hb i i0 i1; unfold hdF; omega
  · unfold hdN
    split
    · omega
    · have := hb (i - 1) (by omega) (by omega); omega
theorem pfx_NS {f : Int → Int} {n : Int} (h : RowOk f n) {i : Nat} (hi : (i : Int) ≤ n) : NS (pfx f i) (lat f i) := by
  have hp := pfx_ok h i hi
  have hl := lat_ok h hi
  refine ⟨⟨hp.1, hp.2.1⟩, hl, ?_⟩
  unfold lat at hl ⊢
  by_cases e : i = 0
  · subst e; exact Or.inl ⟨rfl, rfl⟩
  · rw [if_neg e] at hl ⊢
    have hf := h.1 ((i : Int) - 1) (by omega) (by omega)
    refine Or.inr ⟨by omega, ?_⟩
    exact (hp.2.2.2 _ hf.1 hf.2).mpr ⟨(i : Int) - 1, by omega, by omega, rfl⟩
theorem mnO_pfx {r : Int → Int} (hV : RS r) : ∀ i : Nat, (i : Int) ≤ r 4 → mnO r (pfx (hdF r) i) = sumTo (fun j => r (10 + 3 * hdF r j)) i
  | 0, _ => by
    show mnO r 0 = 0
    unfold mnO
    refine sumTo_z (fun s s0 s1 => ?_)
    have n5 := hV.2.1
    rw [bt_0 ⟨s0, by omega⟩, if_neg (by decide)]
  | i + 1, hi => by
    obtain ⟨hR, h4, hs, _⟩ := hd_ok hV
    have hp := pfx_ok hR i (by omega)
    have hb := pfx_bt hR (i := i) (by omega)
    have hh := hs i (by omega) (by omega)
    rw [pfx, mnO_sb hV ⟨hp.1, hp.2.1⟩ hh hb, mnO_pfx hV i (by omega), sumTo]
