/-! ===== what an evening comes to: by what is tried at each place ===== -/
def chn (r : Int → Int) (sm : Int → LSm) (so s p l z o : Int) : Int := askV r sm (fcts so s l (z + o) (if so = 0 then z else o) (mnO r p) (pop p)) 0
def prc (r : Int → Int) (sm : Int → LSm) (so s p l z o : Int) : Int := askV r sm (fcts so s l (z + o) (if so = 0 then z else o) (mnO r p) (pop p)) 1
theorem chn_ok {r : Int → Int} {sm : Int → LSm} {so s p l z o : Int} : 0 ≤ chn r sm so s p l z o ∧ chn r sm so s p l z o ≤ 100 := ⟨askV_ok.1, askV_ok.2.1⟩
theorem prc_ok {r : Int → Int} {sm : Int → LSm} {so s p l z o : Int} : 0 ≤ prc r sm so s p l z o ∧ prc r sm so s p l z o ≤ 99 := ⟨askV_ok.1, askV_ok.2.2 (by decide)⟩
theorem fcts_ok {r : Int → Int} {so s p l z o : Int} (hV : RS r) (hso : so = 0 ∨ so = 1) (hs : 0 ≤ s ∧ s < 5) (hp : 0 ≤ p ∧ p < 32) (hl : -1 ≤ l ∧ l < 5) (hz : 0 ≤ z ∧ z < 6) (ho : 0 ≤ o ∧ o < 6) : FR (fcts so s l (z + o) (if so = 0 then z else o) (mnO r p) (pop p)) := by
  intro i i0 i1
  have hm := mnO_ok hV p
  have hq := pop_le hp.1 hp.2
  have : i = 1 ∨ i = 2 ∨ i = 3 ∨ i = 4 ∨ i = 5 ∨ i = 6 ∨ i = 7 := by omega
  have hw : 0 ≤ (if so = 0 then z else o) ∧ (if so = 0 then z else o) < 6 := by split <;> omega
  rcases this with rfl | rfl | rfl | rfl | rfl | rfl | rfl <;> simp [fcts] <;> omega
def prcs (r : Int → Int) (sm : Int → LSm) (s p l z o : Int) : Int := (if 0 < z then z * prc r sm 0 s p l z o else 0) + (if 0 < o then o * prc r sm 1 s p l z o else 0)
/-- what a scene brings; g: 0 .. 4 the scene itself, 5 an END, 6 all gone, 7 viewers, 8 the worth, 9 and 10 by one sort alone -/
def brg (r : Int → Int) (sm : Int → LSm) (g s p l z o : Int) : Int :=
  if g < 5 then (if g = s then 1 else 0)
  else if g = 5 then (if r (12 + 3 * s) = 1 then 1 else 0)
  else if g = 6 then 0
  else if g = 7 then (if r (12 + 3 * s) = 1 then z + o else 0)
  else ((if g = 10 then 0 else z * r 31) + (if g = 9 then 0 else o * r 34)) * (r 40 * r (10 + 3 * s) + (if r (12 + 3 * s) = 1 then r 41 else 0)) + (if g = 8 then prcs r sm s p l z o else 0)
theorem mul_le {a b x y : Int} (a0 : 0 ≤ a) (ax : a ≤ x) (b0 : 0 ≤ b) (bY : b ≤ y) : 0 ≤ a * b ∧ a * b ≤ x * y := by
  have h1 := Int.mul_nonneg a0 b0
  have h2 : a * b ≤ x * b := Int.mul_le_mul_of_nonneg_right ax b0
  have h3 : x * b ≤ x * y := Int.mul_le_mul_of_nonneg_left bY (by omega)
  omega
theorem prcs_ok {r : Int → Int} {sm : Int → LSm} {s p l z o : Int} (hz : 0 ≤ z ∧ z < 6) (ho : 0 ≤ o ∧ o < 6) : 0 ≤ prcs r sm s p l z o ∧ prcs r sm s p l z o ≤ 990 := by
  unfold prcs
  have h1 := @prc_ok r sm 0 s p l z o
  have h2 := @prc_ok r sm 1 s p l z o
  have m1 := mul_le hz.1 (show z ≤ 5 by omega) h1.1 h1.2
  have m2 := mul_le ho.1 (show o ≤ 5 by omega) h2.1 h2.2
  generalize z * prc r sm 0 s p l z o = x at *
  generalize o * prc r sm 1 s p l z o = y at *
  split <;> split <;> omega
theorem brg_ok {r : Int → Int} {sm : Int → LSm} {g s p l z o : Int} (hV : RS r) (hg : 0 ≤ g) (hs : 0 ≤ s ∧ s < 5) (hz : 0 ≤ z ∧ z < 6) (ho : 0 ≤ o ∧ o < 6) : 0 ≤ brg r sm g s p l z o ∧ brg r sm g s p l z o ≤ 58500 := by
  have hp := @prcs_ok r sm s p l z o hz ho
  have w0 := hV.2.2.2.1 0 (by decide) (by decide)
  have w1 := hV.2.2.2.1 1 (by decide) (by decide)
  have hsc := hV.2.2.1 s hs.1 hs.2
  obtain ⟨_, _, _, _, t0, t0', t1, t1', _⟩ := hV
  simp only [Int.mul_zero, Int.add_zero, Int.mul_one] at w0 w1
  have e31 : (31 : Int) + 3 = 34 := rfl
  rw [e31] at w1
  have m1 := mul_le hz.1 (show z ≤ 5 by omega) w0.2.2.1 w0.2.2.2.1
  have m2 := mul_le ho.1 (show o ≤ 5 by omega) w1.2.2.1 w1.2.2.2.1
  have m3 := mul_le t0 t0' hsc.1 hsc.2.1
  have c0 : 0 ≤ (if g = 10 then 0 else z * r 31) + (if g = 9 then 0 else o * r 34) ∧ (if g = 10 then 0 else z * r 31) + (if g = 9 then 0 else o * r 34) ≤ 90 := by
    split <;> split <;> omega
  have e0 : 0 ≤ r 40 * r (10 + 3 * s) + (if r (12 + 3 * s) = 1 then r 41 else 0) ∧ r 40 * r (10 + 3 * s) + (if r (12 + 3 * s) = 1 then r 41 else 0) ≤ 639 := by
    split <;> omega
  have m4 := mul_le c0.1 c0.2 e0.1 e0.2
  unfold brg
  generalize ((if g = 10 then 0 else z * r 31) + (if g = 9 then 0 else o * r 34)) * (r 40 * r (10 + 3 * s) + (if r (12 + 3 * s) = 1 then r 41 else 0)) = y at *
  split
  · split <;> omega
  · split
    · split <;> omega
    · split
      · omega
      · split
        · split <;> omega
        · split <;> omega
/-- what is behind, meant by who stays -/
def expc (U : Int → Int → Int) (z o c0 c1 : Int) : Int := sumTo (fun a => stv z c0 a * sumTo (fun b => stv o c1 b * U a b) (o.toNat + 1)) (z.toNat + 1)
def gon (r : Int → Int) (g p l : Int) : Int := if g = 6 ∧ l ≠ -1 ∧ r (12 + 3 * l) = 0 then sc (pop p) else 0
def Wf (r : Int → Int) (sm : Int → LSm) (g : Int) (V' : Int → Int → Int → Int → Int) (s p l z o : Int) : Int :=
  brg r sm g s p l z o * sc (pop p) + (if r (12 + 3 * s) = 1 then 0 else expc (V' (sb p s) s) z o (chn r sm 0 s p l z o) (chn r sm 1 s p l z o))
/-- the best of those that are tried, the first of them -/
def bstF (can : Int → Bool) (w : Int → Int) : Nat → Int × Int
  | 0 => (0, -1)
  | s + 1 => if can (s : Int) && (decide ((bstF can w s).2 = -1) || decide ((bstF can w s).1 < w (s : Int))) then (w (s : Int), (s : Int)) else bstF can w s
theorem bstF_congr {can can' : Int → Bool} {w w' : Int → Int} : ∀ {n : Nat}, (∀ s : Int, 0 ≤ s → s < n → can s = can' s ∧ (can s = true → w s = w' s)) → bstF can w n = bstF can' w' n
  | 0, _ => rfl
  | n + 1, h => by
    have ih := bstF_congr (n := n) (fun s s0 s1 => h s s0 (by omega))
    obtain ⟨h1, h2⟩ := h n (by omega) (by omega)
    simp only [bstF]
    rw [ih, ← h1]
    by_cases q : can n = true
    · rw [h2 q]
    · simp [q]
theorem bstF_none {can : Int → Bool} {w : Int → Int} : ∀ {n : Nat}, (∀ s : Int, 0 ≤ s → s < n → can s = false) → bstF can w n = (0, -1)
  | 0, _ => rfl
  | n + 1, h => by
    simp only [bstF]
    rw [bstF_none (fun s s0 s1 => h s s0 (by omega)), h n (by omega) (by omega)]
    simp
theorem bstF_rng {can : Int → Bool} {w : Int → Int} : ∀ {n : Nat}, -1 ≤ (bstF can w n).2 ∧ (bstF can w n).2 < n ∧ ((bstF can w n).2 = -1 → (bstF can w n).1 = 0) ∧ ((bstF can w n).2 ≠ -1 → can (bstF can w n).2 = true ∧ (bstF can w n).1 = w (bstF can w n).2)
  | 0 => by simp [bstF]
  | n + 1 => by
    have ih := bstF_rng (can := can) (w := w) (n := n)
    simp only [bstF]
    split
    · rename_i h
      simp only [Bool.and_eq_true] at h
      refine ⟨by dsimp only; omega, by dsimp only; omega, fun q => by dsimp only at q; omega, fun _ => ⟨h.1, rfl⟩⟩
    · exact ⟨ih.1, by omega, ih.2.2.1, ih.2.2.2⟩
theorem bstF_one {can : Int → Bool} {w : Int → Int} {c : Int} : ∀ {n : Nat}, (∀ s : Int, 0 ≤ s → s < n → can s = decide (s = c)) → bstF can w n = if 0 ≤ c ∧ c < n then (w c, c) else (0, -1)
  | 0, _ => by rw [bstF, if_neg (by omega)]
  | n + 1, h => by
    simp only [bstF]
    rw [bstF_one (fun s s0 s1 => h s s0 (by omega)), h n (by omega) (by omega)]
    by_cases q : (n : Int) = c
    · subst q
      rw [if_neg (show ¬ (0 ≤ (n : Int) ∧ (n : Int) < n) by omega), if_pos (show 0 ≤ (n : Int) ∧ (n : Int) < ((n + 1 : Nat) : Int) by omega)]
      simp
    · by_cases w' : 0 ≤ c ∧ c < n
      · rw [if_pos w', if_pos (show 0 ≤ c ∧ c < ((n + 1 : Nat) : Int) by omega)]; simp [q]
      · rw [if_neg w', if_neg (show ¬ (0 ≤ c ∧ c < ((n + 1 : Nat) : Int)) by omega)]; simp [q]
abbrev CAN : Type := Int → Int → Int → Int → Int → Bool
def VC (r : Int → Int) (sm : Int → LSm) (g : Int) (can : CAN) : Nat → Int → Int → Int → Int → Int × Int
  | 0, p, l, z, o => (if z + o = 0 then gon r g p l else 0, -1)
  | n + 1, p, l, z, o => if z + o = 0 then (gon r g p l, -1) else bstF (can p l z o) (fun s => Wf r sm g (fun p l z o => (VC r sm g can n p l z o).1) s p l z o) (r 0).toNat
def VV (r : Int → Int) (sm : Int → LSm) (g : Int) (can : CAN) (p l z o : Int) : Int × Int := VC r sm g can (5 - pop p).toNat p l z o
/-- only scenes that were not played are tried -/
def canOk (can : CAN) : Prop := ∀ p l z o s, can p l z o s = true → 0 ≤ s ∧ s < 5 ∧ bt p s = 0
theorem pop5 {p s : Int} (hp : 0 ≤ p ∧ p < 32) (hs : 0 ≤ s ∧ s < 5) : bt p s = 0 → pop p < 5 :=
  fin2 (P := fun p s => bt p s = 0 → pop p < 5) 32 5 (by decide +kernel) hp.1 hp.2 hs.1 hs.2
theorem VV_eq {r : Int → Int} {sm : Int → LSm} {g : Int} {can : CAN} (hc : canOk can) {p l z o : Int} (hp : 0 ≤ p ∧ p < 32) :
    VV r sm g can p l z o = if z + o = 0 then (gon r g p l, -1) else bstF (can p l z o) (fun s => Wf r sm g (fun p l z o => (VV r sm g can p l z o).1) s p l z o) (r 0).toNat := by
  have hq := pop_le hp.1 hp.2
  by_cases e : pop p = 5
  · unfold VV
    rw [show (5 - pop p).toNat = 0 by omega, VC]
    by_cases w : z + o = 0
    · rw [if_pos w, if_pos w]
    · rw [if_neg w, if_neg w, bstF_none]
      intro s s0 s1
      by_cases q : can p l z o s = true
      · have := hc p l z o s q
        have := pop5 hp ⟨this.1, this.2.1⟩ this.2.2
        omega
      · simpa using q
  · obtain ⟨n, hn⟩ : ∃ n, (5 - pop p).toNat = n + 1 := ⟨(5 - pop p).toNat - 1, by omega⟩
    have e1 : VV r sm g can p l z o = VC r sm g can (n + 1) p l z o := by unfold VV; rw [hn]
    rw [e1, VC]
    by_cases w : z + o = 0
    · rw [if_pos w, if_pos w]
    · rw [if_neg w, if_neg w]
      refine bstF_congr (fun s s0 s1 => ⟨rfl, fun hcs => ?_⟩)
      have hs := hc p l z o s hcs
      have hps := pop_sb hp.1 hp.2 hs.1 hs.2.1 hs.2.2
      unfold Wf
      congr 1
      split
      · rfl
      · unfold expc
        refine sumTo_congr (fun a a0 a1 => ?_)
        congr 1
        refine sumTo_congr (fun b b0 b1 => ?_)
        congr 1
        show (VC r sm g can n (sb p s) s a b).1 = (VC r sm g can (5 - pop (sb p s)).toNat (sb p s) s a b).1
        rw [show (5 - pop (sb p s)).toNat = n by omega]
theorem sumTo_mul_le {f U : Int → Int} {B : Int} : ∀ {n : Nat}, (∀ i : Int, 0 ≤ i → i < n → 0 ≤ f i ∧ 0 ≤ U i ∧ U i ≤ B) → 0 ≤ sumTo (fun i => f i * U i) n ∧ sumTo (fun i => f i * U i) n ≤ sumTo f n * B
  | 0, _ => by simp [sumTo]
  | n + 1, h => by
    have ih := sumTo_mul_le (n := n) (fun i i0 i1 => h i i0 (by omega))
    have hn := h n (by omega) (by omega)
    have m1 : 0 ≤ f n * U n := Int.mul_nonneg hn.1 hn.2.1
    have m2 : f n * U n ≤ f n * B := Int.mul_le_mul_of_nonneg_left hn.2.2 hn.1
    simp only [sumTo]
    rw [Int.add_mul]
    omega
theorem expc_ok {U : Int → Int → Int} {z o c0 c1 B : Int} (hz : 0 ≤ z ∧ z < 6) (ho : 0 ≤ o ∧ o < 6) (h0 : 0 ≤ c0 ∧ c0 ≤ 100) (h1 : 0 ≤ c1 ∧ c1 ≤ 100) (hU : ∀ a b : Int, 0 ≤ a → a ≤ z → 0 ≤ b → b ≤ o → 0 ≤ U a b ∧ U a b ≤ B) :
    0 ≤ expc U z o c0 c1 ∧ expc U z o c0 c1 ≤ 100000000000000000000 * B := by
  have inner : ∀ a : Int, 0 ≤ a → a ≤ z → 0 ≤ sumTo (fun b => stv o c1 b * U a b) (o.toNat + 1) ∧ sumTo (fun b => stv o c1 b * U a b) (o.toNat + 1) ≤ 10000000000 * B := by
    intro a a0 a1
    have := sumTo_mul_le (f := fun b => stv o c1 b) (U := fun b => U a b) (B := B) (n := o.toNat + 1) (fun b b0 b1 => ⟨(stv_ok ho.1 ho.2 h1.1 (by omega) b0 (by omega)).1, hU a b a0 a1 b0 (by omega)⟩)
    rw [stv_sum ho.1 ho.2 h1.1 (by omega)] at this
    exact this
  have := sumTo_mul_le (f := fun a => stv z c0 a) (U := fun a => sumTo (fun b => stv o c1 b * U a b) (o.toNat + 1)) (B := 10000000000 * B) (n := z.toNat + 1) (fun a a0 a1 => ⟨(stv_ok hz.1 hz.2 h0.1 (by omega) a0 (by omega)).1, inner a a0 (by omega)⟩)
  rw [stv_sum hz.1 hz.2 h0.1 (by omega)] at this
  unfold expc
  refine ⟨this.1, ?_⟩
  have e : 10000000000 * (10000000000 * B) = 100000000000000000000 * B := by rw [← Int.mul_assoc]; rfl
  omega
theorem sc_s {p : Int} (h0 : 0 ≤ p) (h1 : p < 5) : sc p = 100000000000000000000 * sc (p + 1) := by
  have : p = 0 ∨ p = 1 ∨ p = 2 ∨ p = 3 ∨ p = 4 := by omega
  rcases this with rfl | rfl | rfl | rfl | rfl <;> decide +kernel
theorem sc_pos (p : Int) : 0 < sc p := Int.pow_pos (by decide)
def bnd (q : Int) : Int := ((5 - q) * 58500 + 1) * sc q
/-- a value is not below 0 and not too great -/
theorem VV_ok {r : Int → Int} {sm : Int → LSm} {g : Int} {can : CAN} (hc : canOk can) (hV : RS r) (hg : 0 ≤ g) : ∀ (n : Nat) (p l z o : Int), 0 ≤ p → p < 32 → (5 - pop p).toNat = n → 0 ≤ z → z < 6 → 0 ≤ o → o < 6 → 0 ≤ (VV r sm g can p l z o).1 ∧ (VV r sm g can p l z o).1 ≤ bnd (pop p) := by
  have gon_ok : ∀ p l, 0 ≤ p → p < 32 → 0 ≤ gon r g p l ∧ gon r g p l ≤ bnd (pop p) := by
    intro p l p0 p1
    have hq := pop_le p0 p1
    have hs := sc_pos (pop p)
    have : 1 * sc (pop p) ≤ ((5 - pop p) * 58500 + 1) * sc (pop p) := Int.mul_le_mul_of_nonneg_right (by omega) (by omega)
    unfold gon bnd
    split <;> omega
  intro n
  induction n with
  | zero =>
    intro p l z o p0 p1 hn z0 z1 o0 o1
    unfold VV
    rw [hn, VC]
    have := gon_ok p l p0 p1
    have hb : 0 ≤ bnd (pop p) := by omega
    dsimp only
    split
    · exact this
    · omega
  | succ n ih =>
    intro p l z o p0 p1 hn z0 z1 o0 o1
    have hq := pop_le p0 p1
    rw [VV_eq hc ⟨p0, p1⟩]
    have hg0 := gon_ok p l p0 p1
    split
    · exact hg0
    · have hr := bstF_rng (can := can p l z o) (w := fun s => Wf r sm g (fun p l z o => (VV r sm g can p l z o).1) s p l z o) (n := (r 0).toNat)
      by_cases e : (bstF (can p l z o) (fun s => Wf r sm g (fun p l z o => (VV r sm g can p l z o).1) s p l z o) (r 0).toNat).2 = -1
      · rw [hr.2.2.1 e]; omega
      · obtain ⟨h1, h2⟩ := hr.2.2.2 e
        rw [h2]
        generalize (bstF (can p l z o) (fun s => Wf r sm g (fun p l z o => (VV r sm g can p l z o).1) s p l z o) (r 0).toNat).2 = s at *
        have hs := hc p l z o s h1
        have hps := pop_sb p0 p1 hs.1 hs.2.1 hs.2.2
        have hsl := sb_lt p0 p1 hs.1 hs.2.1
        have hb := @brg_ok r sm g s p l z o hV hg ⟨hs.1, hs.2.1⟩ ⟨z0, z1⟩ ⟨o0, o1⟩
        have he := expc_ok (U := fun a b => (VV r sm g can (sb p s) s a b).1) (z := z) (o := o) (c0 := chn r sm 0 s p l z o) (c1 := chn r sm 1 s p l z o) (B := bnd (pop p + 1)) ⟨z0, z1⟩ ⟨o0, o1⟩ chn_ok chn_ok (fun a b a0 a1 b0 b1 => by
          rw [← hps]; exact ih (sb p s) s a b hsl.1 hsl.2 (by omega) a0 (by omega) b0 (by omega))
        have hsc := sc_s hq.1 (show pop p < 5 by omega)
        have hsp := sc_pos (pop p)
        have m1 : 0 ≤ brg r sm g s p l z o * sc (pop p) := Int.mul_nonneg hb.1 (by omega)
        have m2 : brg r sm g s p l z o * sc (pop p) ≤ 58500 * sc (pop p) := Int.mul_le_mul_of_nonneg_right hb.2 (by omega)
        have e1 : 100000000000000000000 * bnd (pop p + 1) = ((5 - (pop p + 1)) * 58500 + 1) * sc (pop p) := by unfold bnd; rw [hsc]; grind
        have e2 : bnd (pop p) = 58500 * sc (pop p) + ((5 - (pop p + 1)) * 58500 + 1) * sc (pop p) := by unfold bnd; grind
        have e3 : 0 ≤ ((5 - (pop p + 1)) * 58500 + 1) * sc (pop p) := Int.mul_nonneg (by omega) (by omega)
        unfold Wf
        dsimp only
        split <;> omega
