/-! ===== rows of figures: sums limb by limb ===== -/
theorem vl_lin {f g h : Int → Int} {a b e c : Int} : ∀ {n : Nat}, (∀ i : Int, 0 ≤ i → i < n → f (a + i) = g (b + i) + h (e + i) * c) → vl f a n = vl g b n + vl h e n * c
  | 0, _ => by simp [vl]
  | n + 1, q => by
    rw [vl, vl, vl, vl_lin (fun i h0 h1 => q i h0 (by omega)), q n (by omega) (by omega)]
    grind
theorem vl_ext {f : Int → Int} {a : Int} {n : Nat} : ∀ {m : Nat}, n ≤ m → (∀ i : Int, n ≤ i → i < m → f (a + i) = 0) → vl f a m = vl f a n
  | 0, h, _ => by
    have : n = 0 := by omega
    subst this; rfl
  | m + 1, h, q => by
    by_cases e : n = m + 1
    · subst e; rfl
    · rw [vl, vl_ext (n := n) (m := m) (by omega) (fun i i0 i1 => q i i0 (by omega)), q m (by omega) (by omega), Int.zero_mul, Int.add_zero]
theorem vl_lin2 {f g h : Int → Int} {a e c : Int} {k : Nat} : ∀ {n : Nat}, k ≤ n → (∀ i : Int, 0 ≤ i → i < k → f (a + i) = g (a + i) + h (e + i) * c) → (∀ i : Int, k ≤ i → i < n → f (a + i) = g (a + i)) → vl f a n = vl g a n + vl h e k * c
  | 0, h1, q, _ => by
    have : k = 0 := by omega
    subst this
    exact vl_lin q
  | n + 1, h1, q, q2 => by
    by_cases y : k = n + 1
    · subst y; exact vl_lin q
    · rw [vl, vl, vl_lin2 (k := k) (n := n) (by omega) q (fun i i0 i1 => q2 i i0 (by omega)), q2 n (by omega) (by omega)]
      omega
theorem Bp_mono {n m : Nat} (h : n ≤ m) : Bp n ≤ Bp m := by
  induction m with
  | zero => have : n = 0 := by omega
            subst this; exact Int.le_refl _
  | succ m ih =>
    by_cases e : n = m + 1
    · subst e; exact Int.le_refl _
    · have h1 := ih (by omega)
      have h2 := Bp_pos m
      rw [Bp_s]; omega
theorem nrm_high {f : Int → Int} {a : Int} {n : Nat} : ∀ {m : Nat}, n ≤ m → nrm f a m → vl f a m < Bp n → ∀ i : Int, n ≤ i → i < m → f (a + i) = 0
  | 0, _, _, _ => fun i i0 i1 => by omega
  | m + 1, h, hn, hv => fun i i0 i1 => by
    have hn' : nrm f a m := hn.mono (by omega)
    have hl := vl_lt hn'
    have hm := hn m (by omega) (by omega)
    rw [vl] at hv
    have hb := Bp_mono (show n ≤ m by omega)
    have hp := Bp_pos m
    have hz : f (a + m) = 0 := by
      by_cases y : f (a + m) = 0
      · exact y
      · have : 1 * Bp m ≤ f (a + m) * Bp m := Int.mul_le_mul_of_nonneg_right (by omega) (by omega)
        omega
    by_cases y : i = m
    · rw [y]; exact hz
    · rw [hz, Int.zero_mul, Int.add_zero] at hv
      exact nrm_high (by omega) hn' hv i i0 (by omega)
theorem limF_ok {q : Int} (h0 : 1 ≤ q) (h1 : q ≤ 5) : 1 ≤ limF q.toNat ∧ limF q.toNat ≤ 11 := by
  have : q = 1 ∨ q = 2 ∨ q = 3 ∨ q = 4 ∨ q = 5 := by omega
  rcases this with rfl | rfl | rfl | rfl | rfl <;> decide +kernel
