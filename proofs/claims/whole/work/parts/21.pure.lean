/-! ===== pure: sums, sets of scenes, the row ===== -/
def sumTo (f : Int → Int) : Nat → Int
  | 0 => 0
  | n + 1 => sumTo f n + f (n : Int)
def anyTo (f : Int → Bool) : Nat → Bool
  | 0 => false
  | n + 1 => anyTo f n || f (n : Int)
def orTo (c : Int → Bool) : Nat → Int
  | 0 => 0
  | n + 1 => if c (n : Int) then iOr (orTo c n) (iShl 1 (n : Int)) else orTo c n
theorem sumTo_congr {f g : Int → Int} : ∀ {n : Nat}, (∀ i : Int, 0 ≤ i → i < n → f i = g i) → sumTo f n = sumTo g n
  | 0, _ => rfl
  | n + 1, h => by rw [sumTo, sumTo, sumTo_congr (fun i h0 h1 => h i h0 (by omega)), h n (by omega) (by omega)]
theorem anyTo_congr {f g : Int → Bool} : ∀ {n : Nat}, (∀ i : Int, 0 ≤ i → i < n → f i = g i) → anyTo f n = anyTo g n
  | 0, _ => rfl
  | n + 1, h => by rw [anyTo, anyTo, anyTo_congr (fun i h0 h1 => h i h0 (by omega)), h n (by omega) (by omega)]
theorem orTo_congr {f g : Int → Bool} : ∀ {n : Nat}, (∀ i : Int, 0 ≤ i → i < n → f i = g i) → orTo f n = orTo g n
  | 0, _ => rfl
  | n + 1, h => by rw [orTo, orTo, orTo_congr (fun i h0 h1 => h i h0 (by omega)), h n (by omega) (by omega)]
theorem anyTo_iff {f : Int → Bool} : ∀ {n : Nat}, anyTo f n = true ↔ ∃ i : Int, 0 ≤ i ∧ i < n ∧ f i = true
  | 0 => ⟨fun h => by simp [anyTo] at h, fun ⟨i, h0, h1, _⟩ => by omega⟩
  | n + 1 => by
    rw [anyTo, Bool.or_eq_true, anyTo_iff]
    constructor
    · rintro (⟨i, h0, h1, h2⟩ | h)
      · exact ⟨i, h0, by omega, h2⟩
      · exact ⟨n, by omega, by omega, h⟩
    · rintro ⟨i, h0, h1, h2⟩
      by_cases e : i = n
      · subst e; exact Or.inr h2
      · exact Or.inl ⟨i, h0, by omega, h2⟩
theorem sumTo_bound {f : Int → Int} {b : Int} : ∀ {n : Nat}, (∀ i : Int, 0 ≤ i → i < n → 0 ≤ f i ∧ f i ≤ b) → 0 ≤ sumTo f n ∧ sumTo f n ≤ b * n
  | 0, _ => by simp [sumTo]
  | n + 1, h => by
    have h1 := sumTo_bound (n := n) (fun i h0 h1 => h i h0 (by omega))
    have h2 := h n (by omega) (by omega)
    rw [sumTo, show b * ((n + 1 : Nat) : Int) = b * n + b by push_cast; rw [Int.mul_add, Int.mul_one]]
    omega
/-- a number below n, out of all of Fin n -/
theorem finI {P : Int → Prop} (n : Nat) (h : ∀ i : Fin n, P (i.val : Int)) {x : Int} (h0 : 0 ≤ x) (h1 : x < n) : P x := by
  have := h ⟨x.toNat, by omega⟩
  simpa [Int.toNat_of_nonneg h0] using this
/-- a scene's bit -/
abbrev bt (x s : Int) : Int := iAnd (iShr x s) 1
theorem bt01 {x s : Int} (h0 : 0 ≤ x) (h1 : x < 32) (s0 : 0 ≤ s) (s1 : s < 5) : bt x s = 0 ∨ bt x s = 1 :=
  finI (P := fun x => ∀ s : Int, 0 ≤ s → s < 5 → bt x s = 0 ∨ bt x s = 1) 32 (fun i s s0 s1 => finI (P := fun s => bt (i.val : Int) s = 0 ∨ bt (i.val : Int) s = 1) 5 (fun j => by revert i j; decide +kernel) s0 s1) h0 h1 s s0 s1
/-- facts on sets: 'decide' over all of them -/
theorem fin3 {P : Int → Int → Int → Prop} (a b c : Nat) (h : ∀ (i : Fin a) (j : Fin b) (k : Fin c), P i.val j.val k.val) {x y z : Int} (x0 : 0 ≤ x) (x1 : x < a) (y0 : 0 ≤ y) (y1 : y < b) (z0 : 0 ≤ z) (z1 : z < c) : P x y z :=
  finI (P := fun x => P x y z) a (fun i => finI (P := fun y => P i.val y z) b (fun j => finI (P := fun z => P i.val j.val z) c (fun k => h i j k) z0 z1) y0 y1) x0 x1
theorem fin2 {P : Int → Int → Prop} (a b : Nat) (h : ∀ (i : Fin a) (j : Fin b), P i.val j.val) {x y : Int} (x0 : 0 ≤ x) (x1 : x < a) (y0 : 0 ≤ y) (y1 : y < b) : P x y :=
  finI (P := fun x => P x y) a (fun i => finI (P := fun y => P i.val y) b (fun j => h i j) y0 y1) x0 x1
/-- the set with a scene more -/
abbrev sb (x s : Int) : Int := iOr x (iShl 1 s)
theorem sb_lt {x s : Int} (h0 : 0 ≤ x) (h1 : x < 32) (s0 : 0 ≤ s) (s1 : s < 5) : 0 ≤ sb x s ∧ sb x s < 32 :=
  fin2 (P := fun x s => 0 ≤ sb x s ∧ sb x s < 32) 32 5 (by decide +kernel) h0 h1 s0 s1
theorem sb_bt {x s q : Int} (h0 : 0 ≤ x) (h1 : x < 32) (s0 : 0 ≤ s) (s1 : s < 5) (q0 : 0 ≤ q) (q1 : q < 5) : bt (sb x s) q = if q = s then 1 else bt x q :=
  fin3 (P := fun x s q => bt (sb x s) q = if q = s then 1 else bt x q) 32 5 5 (by decide +kernel) h0 h1 s0 s1 q0 q1
theorem sb_add {x s : Int} (h0 : 0 ≤ x) (h1 : x < 32) (s0 : 0 ≤ s) (s1 : s < 5) : bt x s = 0 → sb x s = x + iShl 1 s ∧ x < sb x s :=
  fin2 (P := fun x s => bt x s = 0 → sb x s = x + iShl 1 s ∧ x < sb x s) 32 5 (by decide +kernel) h0 h1 s0 s1
theorem set_ext {x y : Int} (h0 : 0 ≤ x) (h1 : x < 32) (g0 : 0 ≤ y) (g1 : y < 32) : (bt x 0 = bt y 0 ∧ bt x 1 = bt y 1 ∧ bt x 2 = bt y 2 ∧ bt x 3 = bt y 3 ∧ bt x 4 = bt y 4) → x = y :=
  fin2 (P := fun x y => (bt x 0 = bt y 0 ∧ bt x 1 = bt y 1 ∧ bt x 2 = bt y 2 ∧ bt x 3 = bt y 3 ∧ bt x 4 = bt y 4) → x = y) 32 32 (by decide +kernel) h0 h1 g0 g1
/-- how many scenes a set has -/
def pop (x : Int) : Int := sumTo (fun s => bt x s) 5
theorem pop_le {x : Int} (h0 : 0 ≤ x) (h1 : x < 32) : 0 ≤ pop x ∧ pop x ≤ 5 := finI (P := fun x => 0 ≤ pop x ∧ pop x ≤ 5) 32 (by decide +kernel) h0 h1
theorem pop_sb {x s : Int} (h0 : 0 ≤ x) (h1 : x < 32) (s0 : 0 ≤ s) (s1 : s < 5) : bt x s = 0 → pop (sb x s) = pop x + 1 :=
  fin2 (P := fun x s => bt x s = 0 → pop (sb x s) = pop x + 1) 32 5 (by decide +kernel) h0 h1 s0 s1
theorem orTo_ok {c : Int → Bool} : ∀ {n : Nat}, n ≤ 5 → 0 ≤ orTo c n ∧ orTo c n < 2 ^ n ∧ ∀ s : Int, 0 ≤ s → s < 5 → (bt (orTo c n) s = 1 ↔ s < n ∧ c s = true)
  | 0, _ => ⟨by simp [orTo], by simp [orTo], fun s s0 s1 => by
      have : bt 0 s = 0 := finI (P := fun s => bt 0 s = 0) 5 (by decide +kernel) s0 s1
      simp only [orTo]; rw [this]; constructor
      · intro h; omega
      · intro h; omega⟩
  | n + 1, hn => by
    obtain ⟨h1, h2, h3⟩ := orTo_ok (c := c) (n := n) (by omega)
    have hp : (2 : Int) ^ (n + 1) = 2 ^ n * 2 := Int.pow_succ ..
    have h32 : (2 : Int) ^ n ≤ 16 := by
      have : n = 0 ∨ n = 1 ∨ n = 2 ∨ n = 3 ∨ n = 4 := by omega
      rcases this with rfl | rfl | rfl | rfl | rfl <;> decide
    simp only [orTo]
    split
    · rename_i hc
      have hsh : iShl 1 (n : Int) = 2 ^ n := by
        have : n = 0 ∨ n = 1 ∨ n = 2 ∨ n = 3 ∨ n = 4 := by omega
        rcases this with rfl | rfl | rfl | rfl | rfl <;> decide +kernel
      have h0 : bt (orTo c n) n = 0 := by
        rcases bt01 (s := (n : Int)) h1 (by omega) (by omega) (by omega) with h | h
        · exact h
        · exact absurd ((h3 n (by omega) (by omega)).mp h).1 (by omega)
      have ha := (sb_add (s := (n : Int)) h1 (by omega) (by omega) (by omega) h0).1
      have hs := sb_lt (s := (n : Int)) h1 (by omega) (by omega) (by omega)
      refine ⟨hs.1, by show sb _ _ < _; omega, fun s s0 s1 => ?_⟩
      show bt (sb _ _) s = 1 ↔ _
      rw [sb_bt h1 (by omega) (by omega) (by omega) s0 s1]
      by_cases e : s = n
      · rw [if_pos e]; exact ⟨fun _ => ⟨by omega, by rw [e]; exact hc⟩, fun _ => rfl⟩
      · rw [if_neg e, h3 s s0 s1]; exact ⟨fun q => ⟨by omega, q.2⟩, fun q => ⟨by omega, q.2⟩⟩
    · rename_i hc
      refine ⟨h1, by omega, fun s s0 s1 => ?_⟩
      rw [h3 s s0 s1]
      by_cases e : s = n
      · constructor
        · intro q; omega
        · intro q; rw [e] at q; exact absurd q.2 hc
      · exact ⟨fun q => ⟨by omega, q.2⟩, fun q => ⟨by omega, q.2⟩⟩
theorem iOr_0 {x : Int} (h : inR x) : iOr x 0 = x := by
  unfold iOr
  rw [show (Int32.ofInt 0) = 0 from rfl, Int32.or_zero, inR_to h]
/-- the row: minutes of a set, whether an END is within, which scenes can be played -/
def mnO (r : Int → Int) (p : Int) : Int := sumTo (fun s => if bt p s = 1 then r (10 + 3 * s) else 0) (r 0).toNat
def endW (r : Int → Int) (p : Int) : Bool := anyTo (fun s => decide (bt p s = 1) && decide (r (12 + 3 * s) = 1)) (r 0).toNat
def opB (r : Int → Int) (p s : Int) : Bool := decide (bt p s ≠ 1) && (decide (iAnd (r (11 + 3 * s)) (iXor p (-1)) = 0) && decide (mnO r p + r (10 + 3 * s) ≤ r 42))
def canB (r : Int → Int) (p : Int) : Int := if endW r p then 0 else orTo (opB r p) (r 0).toNat
/-- numbers of the row that are as they must be -/
def RS (r : Int → Int) : Prop := 0 ≤ r 0 ∧ r 0 ≤ 5 ∧ (∀ s : Int, 0 ≤ s → s < 5 → 0 ≤ r (10 + 3 * s) ∧ r (10 + 3 * s) ≤ 60 ∧ 0 ≤ r (11 + 3 * s) ∧ r (11 + 3 * s) ≤ 31 ∧ 0 ≤ r (12 + 3 * s) ∧ r (12 + 3 * s) ≤ 1) ∧
  (∀ s : Int, 0 ≤ s → s < 2 → 0 ≤ r (30 + 3 * s) ∧ r (30 + 3 * s) ≤ 5 ∧ 0 ≤ r (31 + 3 * s) ∧ r (31 + 3 * s) ≤ 9 ∧ 0 ≤ r (32 + 3 * s) ∧ r (32 + 3 * s) ≤ 5) ∧
  0 ≤ r 40 ∧ r 40 ≤ 9 ∧ 0 ≤ r 41 ∧ r 41 ≤ 99 ∧ 0 ≤ r 42 ∧ r 42 ≤ 300 ∧ 0 ≤ r 1 ∧ r 1 ≤ 6 ∧ -1 ≤ r 2 ∧ r 2 < r 1 ∧ 0 ≤ r 3 ∧ r 3 ≤ 5 ∧ (∀ s : Int, 0 ≤ s → s < r 3 → 0 ≤ r (45 + s) ∧ r (45 + s) < r 0) ∧ (∀ s q : Int, 0 ≤ s → s < q → q < r 3 → r (45 + s) ≠ r (45 + q)) ∧
  0 ≤ r 4 ∧ r 4 ≤ 5 ∧ -1 ≤ r 5 ∧ r 5 ≤ 10 ∧ (r 5 = -1 → r 4 = 0) ∧ (∀ s : Int, 0 ≤ s → s < r 4 → 0 ≤ r (50 + s) ∧ r (50 + s) < r 0 ∧ 0 ≤ r (55 + s) ∧ r (55 + s) ≤ 10) ∧ (∀ s q : Int, 0 ≤ s → s < q → q < r 4 → r (50 + s) ≠ r (50 + q))
theorem mnO_ok {r : Int → Int} (h : RS r) (p : Int) : 0 ≤ mnO r p ∧ mnO r p ≤ 300 := by
  have := sumTo_bound (f := fun s => if bt p s = 1 then r (10 + 3 * s) else 0) (b := 60) (n := (r 0).toNat) (fun i h0 h1 => by
    have := h.2.2.1 i h0 (by have := h.1; have := h.2.1; omega)
    split <;> omega)
  have h1 := h.1
  have h2 := h.2.1
  unfold mnO
  omega
theorem canB_ok {r : Int → Int} (h : RS r) (p : Int) : 0 ≤ canB r p ∧ canB r p < 32 ∧ ∀ s : Int, 0 ≤ s → s < 5 → (bt (canB r p) s = 1 ↔ endW r p = false ∧ s < r 0 ∧ opB r p s = true) := by
  have h1 := h.1
  have h2 := h.2.1
  have h3 := orTo_ok (c := opB r p) (n := (r 0).toNat) (by omega)
  have h4 : (2 : Int) ^ (r 0).toNat ≤ 32 := by
    have : (r 0).toNat = 0 ∨ (r 0).toNat = 1 ∨ (r 0).toNat = 2 ∨ (r 0).toNat = 3 ∨ (r 0).toNat = 4 ∨ (r 0).toNat = 5 := by omega
    rcases this with e | e | e | e | e | e <;> rw [e] <;> decide
  unfold canB
  by_cases he : endW r p = true
  · rw [if_pos he]
    refine ⟨by omega, by omega, fun s s0 s1 => ?_⟩
    have : bt 0 s = 0 := finI (P := fun s => bt 0 s = 0) 5 (by decide +kernel) s0 s1
    rw [this, he]
    simp
  · rw [if_neg he]
    refine ⟨h3.1, by omega, fun s s0 s1 => ?_⟩
    rw [h3.2.2 s s0 s1]
    have : endW r p = false := by simpa using he
    rw [this, show (((r 0).toNat : Nat) : Int) = r 0 by omega]
    simp
