/-! ===== the class cuts a text into tokens ===== -/
section TC
variable {G : GG} {d : Nat} {M : MM} {Q : PV → MM → Prop} {tx : Int → Int} {L : Int}
def Byt (tx : Int → Int) (L : Int) : Prop := ∀ i : Int, 0 ≤ i → i < L → 0 ≤ tx i ∧ tx i ≤ 255
theorem Byt.r (hb : Byt tx L) {i : Int} (h0 : 0 ≤ i) (h1 : i < L) : inR (tx i) := by have := hb i h0 h1; exact ⟨by omega, by omega⟩
theorem tokEnd_loop {k n : Nat} {x2 x3 x4 lo hi : Int} {c : Int → Bool} (hd : 1 ≤ d) (hS : Sh M) (ht : ∀ j, rd M 14 j = tx j) (hb : Byt tx L) (hL : L ≤ 400) (h3 : x3 = 0 ∨ x3 = 1) (h4 : x4 = 0 ∨ x4 = 1) (hx : ¬ (x3 = 0 ∧ x4 = 0)) (hlo : inR lo) (hhi : inR hi) (hc : ∀ q, c q = true ↔ lo ≤ tx q ∧ tx q ≤ hi) : ∀ (m : Nat) (e : Int), 0 ≤ e → e ≤ L → (L - e).toNat = m → Q (vI (runE c L e)) M → X G Y_X7_tokenEnd d k n 80 [vA 14, vI L, vI x2, vI x3, vI x4, vI lo, vI hi, vI e, vI e] [] M Q
  | 0, e, e0, e1, em, h => by
    have hn : runE c L e = e := runE_n (by omega)
    rw [hn] at h
    exact B_X7_tokenEnd_80 hd hS ⟨⟨by omega, by omega⟩, ⟨by omega, by omega⟩, ⟨by omega, by omega⟩, ⟨by omega, by omega⟩, fun _ => h, fun q => absurd (Or.inl (by omega)) q⟩
  | m + 1, e, e0, e1, em, h => by
    refine B_X7_tokenEnd_80 hd hS ⟨⟨by omega, by omega⟩, ⟨by omega, by omega⟩, ⟨by omega, by omega⟩, ⟨by omega, by omega⟩, fun q => by rcases q with q | q <;> omega, fun q => ?_⟩
    have q1 : e < L := by omega
    refine B_X7_tokenEnd_95 hd hS ⟨e0, by omega, by rw [ht]; exact hb.r e0 q1, hlo, fun w => ?_, fun w => ⟨hhi, fun w2 => ?_, fun w2 v6 e6 => ?_⟩⟩
    · rw [ht] at w
      rw [runE_n (fun y => by have := (hc e).mp y.2; omega)] at h; exact h
    · rw [ht] at w2
      rw [runE_n (fun y => by have := (hc e).mp y.2; omega)] at h; exact h
    · rw [ht] at w w2
      subst e6
      rw [runE_y q1 ((hc e).mpr ⟨w, w2⟩)] at h
      exact tokEnd_loop hd hS ht hb hL h3 h4 hx hlo hhi hc m (e + 1) (by omega) (by omega) (by omega) h
theorem isLt_iff {x : Int} : isLt x = true ↔ 97 ≤ x ∧ x ≤ 122 := by unfold isLt; exact decide_eq_true_iff
theorem isDg_iff {x : Int} : isDg x = true ↔ 48 ≤ x ∧ x ≤ 57 := by unfold isDg; exact decide_eq_true_iff
theorem T_X7_tokenEnd {p : Int} (hd : 1 ≤ d) (hS : Sh M) (ht : ∀ j, rd M 14 j = tx j) (hb : Byt tx L) (hL : L ≤ 400) (h0 : 0 ≤ p) (h1 : p < L) (h : Q (vI (tEn tx L p)) M) : C G Y_X7_tokenEnd d 0 0 [vA 14, vI L, vI p] M Q := by
  have hr : inR (rd M 14 p) := by rw [ht]; exact hb.r h0 h1
  have hN : ¬ (97 ≤ tx p ∧ tx p ≤ 122) → X G Y_X7_tokenEnd d 0 0 20 [vA 14, vI L, vI p, vU, vU, vU, vU, vU, vU] [] M Q := by
    intro nl
    have nl' : ¬ isLt (tx p) = true := fun w => nl (isLt_iff.mp w)
    have hM : ¬ (48 ≤ tx p ∧ tx p ≤ 57) → X G Y_X7_tokenEnd d 0 0 42 [vA 14, vI L, vI p, vI 0, vU, vU, vU, vU, vU] [] M Q := by
      intro nd
      have nd' : ¬ isDg (tx p) = true := fun w => nd (isDg_iff.mp w)
      refine B_X7_tokenEnd_42 hd hS ⟨⟨by decide, by decide⟩, fun v6 _ v11 _ v12 e12 => ?_⟩
      subst e12
      refine B_X7_tokenEnd_80 hd hS ⟨⟨by omega, by omega⟩, ⟨by omega, by omega⟩, ⟨by decide, by decide⟩, ⟨by decide, by decide⟩, fun _ => ?_, fun q => absurd (Or.inr ⟨rfl, rfl⟩) q⟩
      unfold tEn at h
      rw [if_neg nl', if_neg nd'] at h
      exact h
    refine B_X7_tokenEnd_20 hd hS ⟨h0, by omega, hr, fun w => ?_, fun w => ⟨fun w2 => ?_, fun w2 v4 e4 => ?_⟩⟩
    · rw [ht] at w; exact hM (by omega)
    · rw [ht] at w2; exact hM (by omega)
    · rw [ht] at w w2
      subst e4
      unfold tEn at h
      rw [if_neg nl', if_pos (isDg_iff.mpr ⟨w, w2⟩)] at h
      exact tokEnd_loop hd hS ht hb hL (Or.inl rfl) (Or.inr rfl) (by decide) ⟨by decide, by decide⟩ ⟨by decide, by decide⟩ (fun q => isDg_iff) _ (p + 1) (by omega) (by omega) rfl h
  refine C_X7_tokenEnd (B_X7_tokenEnd_0 hd hS ⟨h0, by omega, hr, fun w => ?_, fun w => ⟨fun w2 => ?_, fun w2 => ?_⟩⟩)
  · rw [ht] at w; exact hN (by omega)
  · rw [ht] at w2; exact hN (by omega)
  · rw [ht] at w w2
    have hM : X G Y_X7_tokenEnd d 0 0 42 [vA 14, vI L, vI p, vI 1, vU, vU, vU, vU, vU] [] M Q := by
      refine B_X7_tokenEnd_42 hd hS ⟨⟨by decide, by decide⟩, fun v6 e6 v11 e11 v12 e12 => ?_⟩
      rw [if_neg (by decide)] at e6 e11
      subst e6 e11 e12
      unfold tEn at h
      rw [if_pos (isLt_iff.mpr ⟨w, w2⟩)] at h
      exact tokEnd_loop hd hS ht hb hL (Or.inr rfl) (Or.inl rfl) (by decide) ⟨by decide, by decide⟩ ⟨by decide, by decide⟩ (fun q => isLt_iff) _ (p + 1) (by omega) (by omega) rfl h
    refine ⟨fun _ => hM, fun w3 => ⟨fun _ => hM, fun w4 => ?_⟩⟩
    rw [ht] at w4; omega
/-- a word so far -/
def wsm (tx : Int → Int) (p e k t : Int) : Prop := ∀ s : Int, 0 ≤ s → s < t → p + s < e ∧ tx (p + s) = wdF (gt wofL k + s)
theorem wt_le {i : Int} (h0 : 0 ≤ i) (h1 : i < 69) : 0 ≤ gt wtL i ∧ gt wtL i ≤ 6 ∧ 0 ≤ gt wikL i ∧ gt wikL i ≤ 13 := finI (P := fun i => 0 ≤ gt wtL i ∧ gt wtL i ≤ 6 ∧ 0 ≤ gt wikL i ∧ gt wikL i ≤ 13) 69 (by decide +kernel) h0 h1
theorem wordOf_loop {k n : Nat} {p e : Int} (hd : 4 ≤ d) (hS : Sh M) (ht : ∀ j, rd M 14 j = tx j) (hb : Byt tx L) (hL : L ≤ 400) (h0 : 0 ≤ p) (he : e ≤ L) (h : ∀ kd, ((∃ k : Int, 0 ≤ k ∧ k < 13 ∧ kd = 300 + k ∧ weq tx p e k) ∨ (kd = 257 ∧ ∀ k : Int, 0 ≤ k → k < 13 → ¬ weq tx p e k)) → Q (vI kd) M) : ∀ (m : Nat) (i x5 : Int), 0 ≤ i → i ≤ 68 → (68 - i).toNat = m → ((x5 = 1 ∧ wsm tx p e (gt wikL i) (gt wtL i)) ∨ (x5 = 0 ∧ ¬ wsm tx p e (gt wikL i) (gt wtL i))) → (∀ k : Int, 0 ≤ k → k < gt wikL i → ¬ weq tx p e k) → p ≤ 900 → -1000 ≤ e → X G Y_X7_wordOf d k n 13 [vA 14, vI p, vI e, vI (300 + gt wikL i), vI (p + gt wtL i), vI x5, vI i, vU] [] M Q
  | 0, i, x5, i0, i1, im, _, hk, _, _ => by
    have : i = 68 := by omega
    subst this
    exact B_X7_wordOf_13 hd hS ⟨⟨by decide, by decide⟩, fun _ => h 257 (Or.inr ⟨rfl, fun k k0 k1 => hk k k0 k1⟩), fun q => by omega⟩
  | m + 1, i, x5, i0, i1, im, h5, hk, hp, hE => by
    have i2 : i < 68 := by omega
    obtain ⟨k1, k2, k3, k4, k5, k6⟩ := wk_ok i0 i2
    have wt := wt_le i0 (by omega)
    have wt' := wt_le (show 0 ≤ i + 1 by omega) (by omega)
    have r5 : inR x5 := ⟨by omega, by omega⟩
    have r4 : inR (p + gt wtL i) := ⟨by omega, by omega⟩
    have rE : inR e := ⟨by omega, by omega⟩
    refine B_X7_wordOf_13 hd hS ⟨⟨by omega, by omega⟩, fun q => by omega, fun _ => ⟨⟨i0, i2⟩, fun v3 e3 => ?_⟩⟩
    subst e3
    refine ⟨by have := wdF_ok i0 i2; exact ⟨by omega, by omega⟩, fun w => ⟨r5, r4, rE, fun q => ?_, fun q => ?_⟩, fun w => ⟨r5, r4, rE, fun q => ?_, fun q => ?_⟩⟩
    · obtain ⟨a1, a2, a3⟩ := k5 w
      have hw : ¬ weq tx p e (gt wikL i) := by
        rintro ⟨y1, y2⟩
        have : wsm tx p e (gt wikL i) (gt wtL i) := fun s s0 s1 => ⟨by omega, y2 s s0 (by omega)⟩
        rcases h5 with z | z
        · rcases q with q | q <;> omega
        · exact z.2 this
      have ih := wordOf_loop (k := k) (n := n) hd hS ht hb hL h0 he h m (i + 1) 1 (by omega) (by omega) (by omega) (Or.inl ⟨rfl, fun s s0 s1 => by omega⟩) (fun k k0 k1' => by
        by_cases y : k = gt wikL i
        · rw [y]; exact hw
        · exact hk k k0 (by omega)) (by omega) hE
      rw [a2, a3, Int.add_zero, ← Int.add_assoc] at ih
      exact ih
    · obtain ⟨a1, a2, a3⟩ := k5 w
      have q1 : x5 ≠ 0 := fun y => q (Or.inl y)
      have q2 : p + gt wtL i = e := by
        by_cases y : p + gt wtL i = e
        · exact y
        · exact absurd (Or.inr y) q
      rcases h5 with z | z
      · exact h _ (Or.inl ⟨gt wikL i, k2, k3, rfl, by omega, fun s s0 s1 => (z.2 s s0 (by omega)).2⟩)
      · exact absurd z.1 q1
    · obtain ⟨a1, a2, a3⟩ := k6 w
      have ih := wordOf_loop (k := k) (n := n) hd hS ht hb hL h0 he h m (i + 1) 0 (by omega) (by omega) (by omega) (Or.inr ⟨rfl, fun y => by
        rw [a2, a3] at y
        rcases q with q | q
        · rcases h5 with z | z
          · omega
          · exact z.2 (fun s s0 s1 => y s s0 (by omega))
        · have := (y (gt wtL i) k4 (by omega)).1; omega⟩) (fun k k0 k1' => hk k k0 (by omega)) (by omega) hE
      rw [a2, a3, ← Int.add_assoc] at ih
      exact ih
    · obtain ⟨a1, a2, a3⟩ := k6 w
      have q1 : x5 ≠ 0 := fun y => q (Or.inl y)
      have q2 : p + gt wtL i < e := by
        by_cases y : e ≤ p + gt wtL i
        · exact absurd (Or.inr y) q
        · omega
      refine ⟨by omega, by omega, by rw [ht]; exact hb.r (by omega) (by omega), fun v34 e34 => ?_⟩
      rw [ht] at e34
      have hs : wsm tx p e (gt wikL i) (gt wtL i) := by
        rcases h5 with z | z
        · exact z.2
        · exact absurd z.1 q1
      have ih := wordOf_loop (k := k) (n := n) hd hS ht hb hL h0 he h m (i + 1) v34 (by omega) (by omega) (by omega) (by
        rw [a2, a3]
        by_cases y : tx (p + gt wtL i) = wdF i
        · rw [if_pos y] at e34
          refine Or.inl ⟨e34, fun s s0 s1 => ?_⟩
          by_cases z : s = gt wtL i
          · rw [z, k1]; exact ⟨q2, y⟩
          · exact hs s s0 (by omega)
        · rw [if_neg y] at e34
          refine Or.inr ⟨e34, fun z => y ?_⟩
          have := (z (gt wtL i) k4 (by omega)).2
          rw [k1] at this; exact this) (fun k k0 k1' => hk k k0 (by omega)) (by omega) hE
      rw [a2, a3, ← Int.add_assoc] at ih
      exact ih
theorem T_X7_wordOf {p e : Int} (hd : 4 ≤ d) (hS : Sh M) (ht : ∀ j, rd M 14 j = tx j) (hb : Byt tx L) (hL : L ≤ 400) (h0 : 0 ≤ p) (hp : p < L) (he : e ≤ L) (he0 : 0 ≤ e) (h : ∀ kd, ((∃ k : Int, 0 ≤ k ∧ k < 13 ∧ kd = 300 + k ∧ weq tx p e k) ∨ (kd = 257 ∧ ∀ k : Int, 0 ≤ k → k < 13 → ¬ weq tx p e k)) → Q (vI kd) M) : C G Y_X7_wordOf d 0 0 [vA 14, vI p, vI e] M Q := by
  have e1 : gt wikL 0 = 0 := by decide
  have e2 : gt wtL 0 = 0 := by decide
  have w := wordOf_loop (G := G) (k := 0) (n := 0) hd hS ht hb hL h0 he h 68 0 1 (by omega) (by omega) rfl (Or.inl ⟨rfl, fun s s0 s1 => by rw [e2] at s1; omega⟩) (fun k k0 k1 => by rw [e1] at k1; omega) (by omega) (by omega)
  rw [e1, e2, Int.add_zero, Int.add_zero] at w
  exact C_X7_wordOf (B_X7_wordOf_0 (by omega) hS w)
theorem kindOf_loop {k n : Nat} {p e : Int} (hd : 1 ≤ d) (hS : Sh M) (ht : ∀ j, rd M 14 j = tx j) (hL : L ≤ 400) (h0 : 0 ≤ p) (he : e ≤ L) (hg : ∀ q : Int, p ≤ q → q < e → 48 ≤ tx q ∧ tx q ≤ 57) (h : Q (vI (1000 + nmP tx p (e - p).toNat)) M) : ∀ (m : Nat) (i : Int), p ≤ i → i ≤ e → (e - i).toNat = m → X G Y_X7_kindOf d k n 48 [vA 14, vI p, vI e, vI (nmP tx p (i - p).toNat), vI i] [] M Q
  | 0, i, i0, i1, im => by
    have : i = e := by omega
    subst this
    exact B_X7_kindOf_48 hd hS ⟨⟨by omega, by omega⟩, ⟨by omega, by omega⟩, fun _ => h, fun q => by omega⟩
  | m + 1, i, i0, i1, im => by
    have hn := nm_rng (tx := tx) (p := p) (i - p).toNat (fun j j0 j1 => hg (p + j) (by omega) (by omega))
    have hi := hg i i0 (by omega)
    refine B_X7_kindOf_48 hd hS ⟨⟨by omega, by omega⟩, ⟨by omega, by omega⟩, fun q => by omega, fun _ => ⟨by omega, by omega, by rw [ht]; exact ⟨by omega, by omega⟩, fun v6 e6 => ?_⟩⟩
    have ih := kindOf_loop (k := k) (n := n) hd hS ht hL h0 he hg h m (i + 1) (by omega) (by omega) (by omega)
    have e : (i + 1 - p).toNat = (i - p).toNat + 1 := by omega
    rw [e, nmP, show p + ((i - p).toNat : Int) = i by omega] at ih
    rw [ht] at e6
    rw [e6]; exact ih
theorem tEn_dg {p q : Int} (h1 : ¬ isLt (tx p) = true) (h2 : isDg (tx p) = true) (hq : p ≤ q) (hq2 : q < tEn tx L p) : 48 ≤ tx q ∧ tx q ≤ 57 := by
  unfold tEn at hq2
  rw [if_neg h1, if_pos h2] at hq2
  by_cases e : q = p
  · rw [e]; exact isDg_iff.mp h2
  · have hr := runF_ok (c := fun q => isDg (tx q)) (L := L) (L - (p + 1)).toNat (p + 1)
    exact isDg_iff.mp (hr.2.2 q (by omega) (by unfold runE at hq2; omega)).1
theorem T_X7_kindOf {p : Int} (hd : 5 ≤ d) (hS : Sh M) (ht : ∀ j, rd M 14 j = tx j) (hb : Byt tx L) (hL : L ≤ 400) (h0 : 0 ≤ p) (hp : p < L) (h : ∀ kd, kndOk tx L p kd → Q (vI kd) M) : C G Y_X7_kindOf d 0 0 [vA 14, vI p, vI (tEn tx L p)] M Q := by
  have hr : inR (rd M 14 p) := by rw [ht]; exact hb.r h0 hp
  have hE := tEn_ok (tx := tx) hp
  have hN : ¬ (97 ≤ tx p ∧ tx p ≤ 122) → X G Y_X7_kindOf d 0 0 23 [vA 14, vI p, vI (tEn tx L p), vU, vU] [] M Q := by
    intro nl
    have nl' : ¬ isLt (tx p) = true := fun w => nl (isLt_iff.mp w)
    have nl2 : isLt (tx p) = false := by cases e : isLt (tx p) with | false => rfl | true => exact absurd e nl'
    have hM : ¬ (48 ≤ tx p ∧ tx p ≤ 57) → Q (vI (rd M 14 p)) M := fun nd => by
      rw [ht]
      have nd2 : isDg (tx p) = false := by cases e : isDg (tx p) with | false => rfl | true => exact absurd (isDg_iff.mp e) nd
      exact h _ (Or.inr (Or.inr ⟨nl2, nd2, rfl⟩))
    refine B_X7_kindOf_23 (by omega) hS ⟨h0, by omega, hr, fun w => hM (by rw [ht] at w; omega), fun w => ⟨fun w2 => ?_, fun w2 => hM (by rw [ht] at w2; omega)⟩⟩
    rw [ht] at w w2
    have hD := isDg_iff.mpr ⟨w, w2⟩
    have ih := kindOf_loop (G := G) (d := d) (k := 0) (n := 0) (e := tEn tx L p) (by omega) hS ht hL h0 hE.2 (fun q q0 q1 => tEn_dg nl' hD q0 q1) (h _ (Or.inr (Or.inl ⟨nl2, hD, rfl⟩))) _ p (Int.le_refl _) (by omega) rfl
    rw [show (p - p).toNat = 0 by omega] at ih
    exact ih
  refine C_X7_kindOf (B_X7_kindOf_0 (by omega) hS ⟨h0, by omega, hr, fun w => hN (by rw [ht] at w; omega), fun w => ⟨fun w2 => hN (by rw [ht] at w2; omega), fun w2 => ?_⟩⟩)
  rw [ht] at w w2
  exact T_X7_wordOf (by omega) hS ht hb hL h0 hp hE.2 (by omega) (fun kd hk => ⟨hS, h kd (Or.inl ⟨isLt_iff.mpr ⟨w, w2⟩, hk⟩)⟩)
/-- the tokens of a text in the class's memory -/
def TkN (tx : Int → Int) (L : Int) (kd : Nat → Int) (N : Nat) : Prop := (N : Int) ≤ 400 ∧ TkO tx L kd ∧ (∀ i : Nat, i < N → plT tx L i < L) ∧ plT tx L N = L
def TkC (M : MM) (tx : Int → Int) (L : Int) (kd : Nat → Int) (N : Nat) : Prop := (N : Int) ≤ 400 ∧ TkO tx L kd ∧ (∀ i : Nat, i < N → plT tx L i < L) ∧ plT tx L N = L ∧ ∀ i : Nat, i ≤ N → rd M 17 i = kd i ∧ rd M 18 i = plT tx L i
def KTk (a _j : Int) : Prop := a = 17 ∨ a = 18
theorem skp_end {p : Int} (h : L ≤ p) : skp tx L p = p := runE_n (by omega)
theorem split_loop {k n : Nat} {M0 : MM} (hd : 6 ≤ d) (hb : Byt tx L) (hL : L ≤ 400) (hL0 : 0 ≤ L) (h : ∀ M' kd N, Fr KTk M0 M' → Sh M' → TkC M' tx L kd N → Q vU M') : ∀ (m : Nat) (M : MM) (t : Nat) (e f : Int), Sh M → Fr KTk M0 M → (∀ j, rd M0 14 j = tx j) → (L - f).toNat = m → 0 ≤ e → e ≤ L → (t : Int) ≤ f → f ≤ L → skp tx L (if e ≤ f then f else e) = plT tx L t → (∀ i : Nat, i < t → plT tx L i < L ∧ rd M 18 i = plT tx L i ∧ kndOk tx L (plT tx L i) (rd M 17 i)) → X G Y_X7_split d k n 8 [vA 16, vA 14, vI L, vI t, vI e, vI f] [] M Q
  | 0, M, t, e, f, hS, hf, ht, hm, e0, e1, tf, f1, hp, hi => by
    have ef : f = L := by omega
    subst ef
    have hpt : plT tx f t = f := by rw [← hp, if_pos e1, skp_end (Int.le_refl _)]
    refine B_X7_split_8 (by omega) hS ⟨⟨by omega, by omega⟩, ⟨by omega, by omega⟩, fun _ => ⟨by omega, by omega, fun M5 e5 h5 M6 e6 h6 => ?_⟩, fun q => by omega⟩
    refine h M6 (fun i => if i < t then rd M6 17 i else 256) t (by rw [e6, e5]; exact (hf.wr (Or.inl rfl)).wr (Or.inr rfl)) h6 ⟨by omega, ?_, fun i q => (hi i q).1, hpt, ?_⟩
    · intro i
      refine ⟨fun w => ?_, fun w => ?_⟩
      · have it : i < t := by
          by_cases y : i < t
          · exact y
          · exfalso
            have key : ∀ s : Nat, plT tx f (t + s) = f := by
              intro s
              induction s with
              | zero => exact hpt
              | succ s ih => rw [show t + (s + 1) = (t + s) + 1 from rfl, plT, if_neg (by omega)]; exact ih
            have := key (i - t)
            rw [show t + (i - t) = i by omega] at this
            omega
        have r : rd M6 17 i = rd M 17 i := by rw [e6, rd_wr, if_neg (by omega), e5, rd_wr, if_neg (by omega)]
        show kndOk tx f (plT tx f i) (if i < t then rd M6 17 i else 256)
        rw [if_pos it, r]; exact (hi i it).2.2
      · by_cases y : i < t
        · exact absurd (hi i y).1 w
        · exact if_neg y
    · intro i it
      by_cases y : i < t
      · refine ⟨(if_pos y).symm, ?_⟩
        rw [e6, rd_wr, if_neg (by omega), e5, rd_wr, if_neg (by omega)]; exact (hi i y).2.1
      · have : i = t := by omega
        subst this
        refine ⟨?_, ?_⟩
        · show rd M6 17 i = if i < i then _ else 256
          rw [if_neg (Nat.lt_irrefl _), e6, rd_wr, if_neg (by omega), e5, rd_wr, if_pos ⟨rfl, rfl⟩]
        · rw [e6, rd_wr, if_pos ⟨rfl, rfl⟩, hpt]
  | m + 1, M, t, e, f, hS, hf, ht, hm, e0, e1, tf, f1, hp, hi => by
    have fL : f < L := by omega
    have ht' : ∀ j, rd M 14 j = tx j := fun j => by rw [hf.2.2 14 j (by unfold KTk; decide), ht]
    have f0 : 0 ≤ f := by omega
    refine B_X7_split_8 (by omega) hS ⟨⟨by omega, by omega⟩, ⟨by omega, by omega⟩, fun q => by omega, fun _ => ⟨⟨by omega, by omega⟩, fun q => ?_, fun q => ?_⟩⟩
    · refine split_loop hd hb hL hL0 h m M t e (f + 1) hS hf ht (by omega) e0 e1 (by omega) (by omega) ?_ hi
      rw [← hp, if_neg (show ¬ e ≤ f by omega)]
      by_cases y : e ≤ f + 1
      · rw [if_pos y]; congr 1; omega
      · rw [if_neg y]
    · rw [if_pos q] at hp
      refine ⟨f0, by omega, by rw [ht']; exact hb.r f0 fL, fun w => ?_, fun w => ?_⟩
      · rw [ht'] at w
        have hs : skp tx L f = f := runE_n (fun y => w (of_decide_eq_true y.2))
        rw [hs] at hp
        have hE := tEn_ok (tx := tx) fL
        refine T_X7_tokenEnd (by omega) hS ht' hb hL f0 fL ⟨hS, ?_⟩
        refine T_X7_kindOf (by omega) hS ht' hb hL f0 fL (fun kd hk => ⟨hS, by omega, by omega, fun M17 e17 h17 M18 e18 h18 => ?_⟩)
        have r18 : ∀ a j, rd M18 a j = if a = 18 ∧ j = t then f else if a = 17 ∧ j = t then kd else rd M a j := fun a j => by rw [e18, rd_wr, e17, rd_wr]
        have ih := split_loop (k := k) (n := n) hd hb hL hL0 h m M18 (t + 1) (tEn tx L f) (f + 1) h18 (by rw [e18, e17]; exact (hf.wr (Or.inl rfl)).wr (Or.inr rfl)) ht (by omega) (by omega) hE.2 (by push_cast; omega) (by omega) (by
          have pe : plT tx L (t + 1) = skp tx L (tEn tx L f) := by rw [plT, ← hp, if_pos fL]
          rw [pe]
          congr 1
          split <;> omega) (fun i hi' => by
          by_cases y : i = t
          · subst y
            rw [r18, if_pos ⟨rfl, rfl⟩, r18, if_neg (by omega), if_pos ⟨rfl, rfl⟩, ← hp]
            exact ⟨fL, rfl, hk⟩
          · have := hi i (by omega)
            rw [r18, if_neg (by omega), if_neg (by omega), r18, if_neg (by omega), if_neg (by omega)]
            exact this)
        exact ih
      · rw [ht'] at w
        refine split_loop hd hb hL hL0 h m M t e (f + 1) hS hf ht (by omega) e0 e1 (by omega) (by omega) ?_ hi
        rw [if_pos (by omega), ← hp]
        exact (runE_y fL (decide_eq_true w)).symm
theorem T_X7_split (hd : 6 ≤ d) (hS : Sh M) (ht : ∀ j, rd M 14 j = tx j) (hb : Byt tx L) (hL : L ≤ 400) (hL0 : 0 ≤ L) (h : ∀ M' kd N, Fr KTk M M' → Sh M' → TkC M' tx L kd N → Q vU M') : C G Y_X7_split d 0 0 [vA 16, vA 14, vI L] M Q :=
  C_X7_split (B_X7_split_0 (by omega) hS (split_loop (M0 := M) hd hb hL hL0 h (L - 0).toNat M 0 0 0 hS Fr.rf ht rfl (by omega) hL0 (by simp) hL0 (by rw [if_pos (by decide)]; rfl) (fun i hi => by omega)))
end TC
