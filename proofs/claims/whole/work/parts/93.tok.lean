/-! ===== a text's tokens ===== -/
def runF (c : Int → Bool) (L : Int) : Nat → Int → Int
  | 0, p => p
  | n + 1, p => if p < L ∧ c p = true then runF c L n (p + 1) else p
def runE (c : Int → Bool) (L p : Int) : Int := runF c L (L - p).toNat p
theorem runE_y {c : Int → Bool} {L p : Int} (h1 : p < L) (h2 : c p = true) : runE c L p = runE c L (p + 1) := by
  unfold runE
  rw [show (L - p).toNat = (L - (p + 1)).toNat + 1 by omega, runF, if_pos ⟨h1, h2⟩]
theorem runE_n {c : Int → Bool} {L p : Int} (h : ¬ (p < L ∧ c p = true)) : runE c L p = p := by
  unfold runE
  cases e : (L - p).toNat with
  | zero => rfl
  | succ n => rw [runF, if_neg h]
theorem runF_ok {c : Int → Bool} {L : Int} : ∀ (n : Nat) (p : Int), p ≤ runF c L n p ∧ (p ≤ L → runF c L n p ≤ L) ∧ ∀ q : Int, p ≤ q → q < runF c L n p → c q = true ∧ q < L
  | 0, p => ⟨Int.le_refl _, fun h => h, fun q h1 h2 => by simp only [runF] at h2; omega⟩
  | n + 1, p => by
    rw [runF]
    split
    · rename_i w
      have ih := runF_ok (c := c) (L := L) n (p + 1)
      refine ⟨by omega, fun h => ih.2.1 (by omega), fun q h1 h2 => ?_⟩
      by_cases e : q = p
      · rw [e]; exact ⟨w.2, w.1⟩
      · exact ih.2.2 q (by omega) h2
    · exact ⟨Int.le_refl _, fun h => h, fun q h1 h2 => by omega⟩
theorem runF_end {c : Int → Bool} {L : Int} : ∀ (n : Nat) (p : Int), (L - p).toNat ≤ n → ¬ (runF c L n p < L ∧ c (runF c L n p) = true)
  | 0, p, h => fun w => by simp only [runF] at w; omega
  | n + 1, p, h => by
    rw [runF]
    split
    · exact runF_end n (p + 1) (by omega)
    · rename_i w; exact w
def isLt (x : Int) : Bool := decide (97 ≤ x ∧ x ≤ 122)
def isDg (x : Int) : Bool := decide (48 ≤ x ∧ x ≤ 57)
section TK
variable (tx : Int → Int) (L : Int)
def skp (p : Int) : Int := runE (fun q => decide (tx q = 32)) L p
def tEn (p : Int) : Int := if isLt (tx p) = true then runE (fun q => isLt (tx q)) L (p + 1) else if isDg (tx p) = true then runE (fun q => isDg (tx q)) L (p + 1) else p + 1
def nmP (p : Int) : Nat → Int
  | 0 => 0
  | k + 1 => if 1001 < nmP p k * 10 + tx (p + k) - 48 then 1001 else nmP p k * 10 + tx (p + k) - 48
end TK
/-- where the words begin in the one text, how long they are -/
def wofL : List Int := [0, 6, 12, 15, 18, 22, 26, 31, 37, 44, 50, 54, 61]
def wlnL : List Int := [5, 5, 2, 2, 3, 3, 4, 5, 6, 5, 3, 6, 6]
def wcdL : List Int := [20580147, 17376357, 294, 498, 1476, 14836, 638548, 20026821, 72564293, 8553619, 16110, 446125701, 549512356]
def wikL : List Int := [0, 0, 0, 0, 0, 0, 1, 1, 1, 1, 1, 1, 2, 2, 2, 3, 3, 3, 4, 4, 4, 4, 5, 5, 5, 5, 6, 6, 6, 6, 6, 7, 7, 7, 7, 7, 7, 8, 8, 8, 8, 8, 8, 8, 9, 9, 9, 9, 9, 9, 10, 10, 10, 10, 11, 11, 11, 11, 11, 11, 11, 12, 12, 12, 12, 12, 12, 12, 13]
def wtL : List Int := [0, 1, 2, 3, 4, 5, 0, 1, 2, 3, 4, 5, 0, 1, 2, 0, 1, 2, 0, 1, 2, 3, 0, 1, 2, 3, 0, 1, 2, 3, 4, 0, 1, 2, 3, 4, 5, 0, 1, 2, 3, 4, 5, 6, 0, 1, 2, 3, 4, 5, 0, 1, 2, 3, 0, 1, 2, 3, 4, 5, 6, 0, 1, 2, 3, 4, 5, 6, 0]
theorem wk_ok {i : Int} (h0 : 0 ≤ i) (h1 : i < 68) : gt wofL (gt wikL i) + gt wtL i = i ∧ 0 ≤ gt wikL i ∧ gt wikL i < 13 ∧ 0 ≤ gt wtL i ∧ (wdF i = 32 → gt wtL i = gt wlnL (gt wikL i) ∧ gt wikL (i + 1) = gt wikL i + 1 ∧ gt wtL (i + 1) = 0) ∧ (wdF i ≠ 32 → gt wtL i < gt wlnL (gt wikL i) ∧ gt wikL (i + 1) = gt wikL i ∧ gt wtL (i + 1) = gt wtL i + 1) :=
  finI (P := fun i => gt wofL (gt wikL i) + gt wtL i = i ∧ 0 ≤ gt wikL i ∧ gt wikL i < 13 ∧ 0 ≤ gt wtL i ∧ (wdF i = 32 → gt wtL i = gt wlnL (gt wikL i) ∧ gt wikL (i + 1) = gt wikL i + 1 ∧ gt wtL (i + 1) = 0) ∧ (wdF i ≠ 32 → gt wtL i < gt wlnL (gt wikL i) ∧ gt wikL (i + 1) = gt wikL i ∧ gt wtL (i + 1) = gt wtL i + 1)) 68 (by decide +kernel) h0 h1
/-- the text from p to e is the k-th word -/
def weq (tx : Int → Int) (p e k : Int) : Prop := e - p = gt wlnL k ∧ ∀ s : Int, 0 ≤ s → s < gt wlnL k → tx (p + s) = wdF (gt wofL k + s)
def b32 (f : Int → Int) : Nat → Int
  | 0 => 0
  | t + 1 => b32 f t * 32 + f (t : Int) - 96
theorem b32_pos {f : Int → Int} : ∀ (n : Nat), (∀ i : Int, 0 ≤ i → i < n → 97 ≤ f i ∧ f i ≤ 122) → 0 ≤ b32 f n ∧ (0 < n → 0 < b32 f n)
  | 0, _ => ⟨Int.le_refl _, fun h => absurd h (by decide)⟩
  | n + 1, h => by
    have ih := b32_pos n (fun i i0 i1 => h i i0 (by omega))
    have := h n (by omega) (by omega)
    rw [b32]
    exact ⟨by omega, fun _ => by omega⟩
theorem b32_inj {f g : Int → Int} : ∀ (n m : Nat), (∀ i : Int, 0 ≤ i → i < n → 97 ≤ f i ∧ f i ≤ 122) → (∀ i : Int, 0 ≤ i → i < m → 97 ≤ g i ∧ g i ≤ 122) → b32 f n = b32 g m → n = m ∧ ∀ i : Int, 0 ≤ i → i < n → f i = g i
  | 0, 0, _, _, _ => ⟨rfl, fun i i0 i1 => by omega⟩
  | 0, m + 1, _, hg, e => by
    have := (b32_pos (m + 1) hg).2 (by omega)
    rw [← e] at this
    exact absurd this (Int.lt_irrefl 0)
  | n + 1, 0, hf, _, e => by
    have := (b32_pos (n + 1) hf).2 (by omega)
    rw [e] at this
    exact absurd this (Int.lt_irrefl 0)
  | n + 1, m + 1, hf, hg, e => by
    have a := hf n (by omega) (by omega)
    have b := hg m (by omega) (by omega)
    rw [b32, b32] at e
    have e1 : f n = g m := by omega
    have e2 : b32 f n = b32 g m := by omega
    obtain ⟨h1, h2⟩ := b32_inj n m (fun i i0 i1 => hf i i0 (by omega)) (fun i i0 i1 => hg i i0 (by omega)) e2
    subst h1
    refine ⟨rfl, fun i i0 i1 => ?_⟩
    by_cases q : i = n
    · rw [q]; exact e1
    · exact h2 i i0 (by omega)
theorem wcd_ok {k : Int} (h0 : 0 ≤ k) (h1 : k < 13) : b32 (fun s => wdF (gt wofL k + s)) (gt wlnL k).toNat = gt wcdL k ∧ 2 ≤ gt wlnL k ∧ gt wlnL k ≤ 6 ∧ 0 < gt wcdL k ∧ gt wcdL k < 2147483648 :=
  finI (P := fun k => b32 (fun s => wdF (gt wofL k + s)) (gt wlnL k).toNat = gt wcdL k ∧ 2 ≤ gt wlnL k ∧ gt wlnL k ≤ 6 ∧ 0 < gt wcdL k ∧ gt wcdL k < 2147483648) 13 (by decide +kernel) h0 h1
theorem wlt_ok {k s : Int} (h0 : 0 ≤ k) (h1 : k < 13) (s0 : 0 ≤ s) (s1 : s < 6) : s < gt wlnL k → 97 ≤ wdF (gt wofL k + s) ∧ wdF (gt wofL k + s) ≤ 122 :=
  fin2 (P := fun k s => s < gt wlnL k → 97 ≤ wdF (gt wofL k + s) ∧ wdF (gt wofL k + s) ≤ 122) 13 6 (by decide +kernel) h0 h1 s0 s1
/-- the model's number of a word of letters -/
def wdM (tx : Int → Int) (p : Int) : Nat → Int
  | 0 => 0
  | t + 1 => if (t : Int) < 10 then wdM tx p t * 32 + tx (p + t) - 96 else -1
theorem wdM_b32 (tx : Int → Int) (p : Int) : ∀ t : Nat, t ≤ 10 → wdM tx p t = b32 (fun s => tx (p + s)) t
  | 0, _ => rfl
  | t + 1, h => by rw [wdM, if_pos (by omega), wdM_b32 tx p t (by omega), b32]
theorem wdM_big (tx : Int → Int) (p : Int) (t : Nat) (h : 10 < t) : wdM tx p t = -1 := by
  obtain ⟨m, rfl⟩ : ∃ m, t = m + 1 := ⟨t - 1, by omega⟩
  rw [wdM, if_neg (by omega)]
theorem wdM_eq {tx : Int → Int} {p e k : Int} (hpe : p ≤ e) (hl : ∀ q : Int, p ≤ q → q < e → 97 ≤ tx q ∧ tx q ≤ 122) (h0 : 0 ≤ k) (h1 : k < 13) : wdM tx p (e - p).toNat = gt wcdL k ↔ weq tx p e k := by
  obtain ⟨w1, w2, w3, w4, w5⟩ := wcd_ok h0 h1
  by_cases hb : (e - p).toNat ≤ 10
  · rw [wdM_b32 tx p _ hb, ← w1]
    constructor
    · intro h
      obtain ⟨h1', h2'⟩ := b32_inj _ _ (fun i i0 i1 => hl (p + i) (by omega) (by omega)) (fun i i0 i1 => wlt_ok h0 h1 i0 (by omega) (by omega)) h
      exact ⟨by omega, fun s s0 s1 => h2' s s0 (by omega)⟩
    · rintro ⟨h1', h2'⟩
      have en : (e - p).toNat = (gt wlnL k).toNat := by omega
      rw [en]
      have key : ∀ n : Nat, (n : Int) ≤ gt wlnL k → b32 (fun s => tx (p + s)) n = b32 (fun s => wdF (gt wofL k + s)) n := by
        intro n
        induction n with
        | zero => intro _; rfl
        | succ n ih => intro hn; rw [b32, b32, ih (by omega), h2' n (by omega) (by omega)]
      exact key _ (by omega)
  · rw [wdM_big tx p _ (by omega)]
    exact ⟨fun h => by omega, fun h => by have := h.1; omega⟩
theorem wcd_inj {k k' : Int} (h0 : 0 ≤ k) (h1 : k < 13) (h0' : 0 ≤ k') (h1' : k' < 13) : gt wcdL k = gt wcdL k' → k = k' :=
  fin2 (P := fun k k' => gt wcdL k = gt wcdL k' → k = k') 13 13 (by decide +kernel) h0 h1 h0' h1'
theorem b32_cong {f g : Int → Int} : ∀ (n : Nat), (∀ i : Int, 0 ≤ i → i < n → f i = g i) → b32 f n = b32 g n
  | 0, _ => rfl
  | n + 1, h => by rw [b32, b32, b32_cong n (fun i i0 i1 => h i i0 (by omega)), h n (by omega) (by omega)]
theorem weq_inj {tx : Int → Int} {p e k k' : Int} (h0 : 0 ≤ k) (h1 : k < 13) (h0' : 0 ≤ k') (h1' : k' < 13) (hw : weq tx p e k) (hw' : weq tx p e k') : k = k' := by
  obtain ⟨a, a2, a3, -⟩ := wcd_ok h0 h1
  obtain ⟨b, -⟩ := wcd_ok h0' h1'
  obtain ⟨w1, w2⟩ := hw
  obtain ⟨v1, v2⟩ := hw'
  have e1 : gt wlnL k' = gt wlnL k := v1.symm.trans w1
  rw [e1] at b v2
  have e2 := b32_cong (f := fun s => wdF (gt wofL k + s)) (g := fun s => wdF (gt wofL k' + s)) (gt wlnL k).toNat (fun i i0 i1 => (w2 i i0 (by omega)).symm.trans (v2 i i0 (by omega)))
  exact wcd_inj h0 h1 h0' h1' (a.symm.trans (e2.trans b))
/-- a token's kind -/
def kndOk (tx : Int → Int) (L p kd : Int) : Prop :=
  (isLt (tx p) = true ∧ ((∃ k : Int, 0 ≤ k ∧ k < 13 ∧ kd = 300 + k ∧ weq tx p (tEn tx L p) k) ∨ (kd = 257 ∧ ∀ k : Int, 0 ≤ k → k < 13 → ¬ weq tx p (tEn tx L p) k))) ∨
  (isLt (tx p) = false ∧ isDg (tx p) = true ∧ kd = 1000 + nmP tx p (tEn tx L p - p).toNat) ∨ (isLt (tx p) = false ∧ isDg (tx p) = false ∧ kd = tx p)
theorem kndOk_fun {tx : Int → Int} {L p a b : Int} (ha : kndOk tx L p a) (hb : kndOk tx L p b) : a = b := by
  rcases ha with ⟨h1, h2⟩ | ⟨h1, h2, h3⟩ | ⟨h1, h2, h3⟩
  · rcases hb with ⟨g1, g2⟩ | ⟨g1, _⟩ | ⟨g1, _⟩
    · rcases h2 with ⟨k, k0, k1, e, w⟩ | ⟨e, w⟩
      · rcases g2 with ⟨k', k0', k1', e', w'⟩ | ⟨e', w'⟩
        · rw [e, e', weq_inj k0 k1 k0' k1' w w']
        · exact absurd w (w' k k0 k1)
      · rcases g2 with ⟨k', k0', k1', e', w'⟩ | ⟨e', w'⟩
        · exact absurd w' (w k' k0' k1')
        · rw [e, e']
    · rw [h1] at g1; cases g1
    · rw [h1] at g1; cases g1
  · rcases hb with ⟨g1, _⟩ | ⟨_, _, g3⟩ | ⟨_, g2, _⟩
    · rw [h1] at g1; cases g1
    · rw [h3, g3]
    · rw [h2] at g2; cases g2
  · rcases hb with ⟨g1, _⟩ | ⟨_, g2, _⟩ | ⟨_, _, g3⟩
    · rw [h1] at g1; cases g1
    · rw [h2] at g2; cases g2
    · rw [h3, g3]
/-- places of tokens -/
def plT (tx : Int → Int) (L : Int) : Nat → Int
  | 0 => skp tx L 0
  | i + 1 => if plT tx L i < L then skp tx L (tEn tx L (plT tx L i)) else plT tx L i
theorem skp_ok (tx : Int → Int) (L p : Int) : p ≤ skp tx L p ∧ (p ≤ L → skp tx L p ≤ L) ∧ (skp tx L p < L → tx (skp tx L p) ≠ 32) := by
  have h := runF_ok (c := fun q => decide (tx q = 32)) (L := L) (L - p).toNat p
  have e := runF_end (c := fun q => decide (tx q = 32)) (L := L) (L - p).toNat p (Nat.le_refl _)
  refine ⟨h.1, h.2.1, fun w q => e ⟨w, ?_⟩⟩
  exact decide_eq_true q
theorem tEn_ok {tx : Int → Int} {L p : Int} (hp : p < L) : p < tEn tx L p ∧ tEn tx L p ≤ L := by
  unfold tEn
  split
  · have h := runF_ok (c := fun q => isLt (tx q)) (L := L) (L - (p + 1)).toNat (p + 1)
    exact ⟨by have := h.1; unfold runE; omega, h.2.1 (by omega)⟩
  · split
    · have h := runF_ok (c := fun q => isDg (tx q)) (L := L) (L - (p + 1)).toNat (p + 1)
      exact ⟨by have := h.1; unfold runE; omega, h.2.1 (by omega)⟩
    · omega
theorem plT_ok {tx : Int → Int} {L : Int} (hL : 0 ≤ L) : ∀ i : Nat, 0 ≤ plT tx L i ∧ plT tx L i ≤ L ∧ (plT tx L i < L → tx (plT tx L i) ≠ 32 ∧ (i : Int) ≤ plT tx L i ∧ plT tx L i < plT tx L (i + 1))
  | 0 => by
    have h := skp_ok tx L 0
    refine ⟨h.1, h.2.1 hL, fun w => ⟨h.2.2 w, h.1, ?_⟩⟩
    have w' : plT tx L 0 < L := w
    rw [show plT tx L (0 + 1) = if plT tx L 0 < L then skp tx L (tEn tx L (plT tx L 0)) else plT tx L 0 from rfl, if_pos w']
    show plT tx L 0 < _
    have := tEn_ok (tx := tx) w'
    have := (skp_ok tx L (tEn tx L (plT tx L 0))).1
    omega
  | i + 1 => by
    have ih := plT_ok (tx := tx) hL i
    have hs : ∀ w : plT tx L (i + 1) < L, plT tx L (i + 1) < plT tx L (i + 1 + 1) := fun w => by
      rw [show plT tx L (i + 1 + 1) = if plT tx L (i + 1) < L then skp tx L (tEn tx L (plT tx L (i + 1))) else plT tx L (i + 1) from rfl, if_pos w]
      have := tEn_ok (tx := tx) w
      have := (skp_ok tx L (tEn tx L (plT tx L (i + 1)))).1
      omega
    by_cases q : plT tx L i < L
    · have ht := tEn_ok (tx := tx) q
      have hk := skp_ok tx L (tEn tx L (plT tx L i))
      have e : plT tx L (i + 1) = skp tx L (tEn tx L (plT tx L i)) := by rw [plT, if_pos q]
      refine ⟨by rw [e]; omega, by rw [e]; exact hk.2.1 ht.2, fun w => ⟨by rw [e] at w ⊢; exact hk.2.2 w, ?_, hs w⟩⟩
      have := (ih.2.2 q).2.1
      rw [e]; push_cast; omega
    · have e : plT tx L (i + 1) = plT tx L i := by rw [plT, if_neg q]
      exact ⟨by rw [e]; exact ih.1, by rw [e]; exact ih.2.1, fun w => by rw [e] at w; exact absurd w q⟩
/-- the kinds of a text's tokens -/
def TkO (tx : Int → Int) (L : Int) (kd : Nat → Int) : Prop := ∀ i : Nat, (plT tx L i < L → kndOk tx L (plT tx L i) (kd i)) ∧ (¬ plT tx L i < L → kd i = 256)
theorem nm_rng {tx : Int → Int} {p : Int} : ∀ n : Nat, (∀ i : Int, 0 ≤ i → i < n → 48 ≤ tx (p + i) ∧ tx (p + i) ≤ 57) → 0 ≤ nmP tx p n ∧ nmP tx p n ≤ 1001
  | 0, _ => ⟨Int.le_refl _, by show (0 : Int) ≤ 1001; decide⟩
  | n + 1, h => by
    have ih := nm_rng n (fun i i0 i1 => h i i0 (by omega))
    have := h n (by omega) (by omega)
    rw [nmP]
    split <;> omega
/-- kinds lie apart -/
theorem knd_rng {tx : Int → Int} {L p kd : Int} (h : kndOk tx L p kd) (hb : 0 ≤ tx p ∧ tx p ≤ 255) : 0 ≤ kd ∧ kd ≤ 2001 ∧ kd ≠ 256 ∧ inR kd := by
  have key : 0 ≤ kd ∧ kd ≤ 2001 ∧ kd ≠ 256 := by
    rcases h with ⟨h1, h2⟩ | ⟨h1, h2, h3⟩ | ⟨h1, h2, h3⟩
    · rcases h2 with ⟨k, k0, k1, e, _⟩ | ⟨e, _⟩ <;> omega
    · have hd : ∀ i : Int, 0 ≤ i → i < (tEn tx L p - p).toNat → 48 ≤ tx (p + i) ∧ tx (p + i) ≤ 57 := by
        intro i i0 i1
        unfold tEn at i1
        rw [h1, h2] at i1
        simp only [Bool.false_eq_true, if_false, if_true] at i1
        by_cases e : i = 0
        · subst e; rw [Int.add_zero]; unfold isDg at h2; exact of_decide_eq_true h2
        · have hr := runF_ok (c := fun q => isDg (tx q)) (L := L) (L - (p + 1)).toNat (p + 1)
          have := (hr.2.2 (p + i) (by omega) (by unfold runE at i1; omega)).1
          unfold isDg at this
          exact of_decide_eq_true this
      have := nm_rng (tx := tx) (p := p) _ hd
      omega
    · omega
  exact ⟨key.1, key.2.1, key.2.2, ⟨by omega, by omega⟩⟩
