/-! ===== the house of the class, and what its methods answer ===== -/
/-- the house at h holds the row r (laws aside) -/
def HRg (M : MM) (h : Int) (r : Int → Int) : Prop :=
  rd M h 0 = r 0 ∧ (∀ s : Int, 0 ≤ s → s < 5 → rd M (h + 1) s = r (10 + 3 * s) ∧ rd M (h + 2) s = r (11 + 3 * s) ∧ rd M (h + 3) s = r (12 + 3 * s)) ∧
  (∀ s : Int, 0 ≤ s → s < 2 → rd M (h + 4) s = r (30 + 3 * s) ∧ rd M (h + 5) s = r (31 + 3 * s) ∧ rd M (h + 6) s = r (32 + 3 * s)) ∧
  (∀ s : Int, 0 ≤ s → s < 3 → rd M (h + 7) s = r (40 + s)) ∧ rd M h 9 = r 1 ∧ rd M h 10 = r 2 ∧ rd M h 12 = r 3 ∧ (∀ s : Int, 0 ≤ s → s < 5 → rd M (h + 9) s = r (45 + s)) ∧
  rd M h 16 = r 4 ∧ rd M h 13 = (if r 5 = -1 then 0 else 1) ∧ (r 5 ≠ -1 → rd M (h + 10) 0 = r 5) ∧ (∀ s : Int, 0 ≤ s → s < 5 → rd M (h + 11) s = r (50 + s) ∧ rd M (h + 10) (s + 1) = r (55 + s))
def HR (M : MM) (r : Int → Int) : Prop :=
  rd M 1 0 = r 0 ∧ (∀ s : Int, 0 ≤ s → s < 5 → rd M 2 s = r (10 + 3 * s) ∧ rd M 3 s = r (11 + 3 * s) ∧ rd M 4 s = r (12 + 3 * s)) ∧
  (∀ s : Int, 0 ≤ s → s < 2 → rd M 5 s = r (30 + 3 * s) ∧ rd M 6 s = r (31 + 3 * s) ∧ rd M 7 s = r (32 + 3 * s)) ∧
  (∀ s : Int, 0 ≤ s → s < 3 → rd M 8 s = r (40 + s)) ∧ rd M 1 9 = r 1 ∧ rd M 1 10 = r 2 ∧ rd M 1 12 = r 3 ∧ (∀ s : Int, 0 ≤ s → s < 5 → rd M 10 s = r (45 + s)) ∧
  rd M 1 16 = r 4 ∧ rd M 1 13 = (if r 5 = -1 then 0 else 1) ∧ (r 5 ≠ -1 → rd M 11 0 = r 5) ∧ (∀ s : Int, 0 ≤ s → s < 5 → rd M 12 s = r (50 + s) ∧ rd M 11 (s + 1) = r (55 + s))
theorem HR_g {M : MM} {r : Int → Int} : HR M r ↔ HRg M 1 r := Iff.rfl
/-- cells of the house alone -/
def KH (a j : Int) : Prop := 1 ≤ a ∧ a ≤ 12
theorem HR.fr {M M' : MM} {r : Int → Int} (h : HR M r) (hf : ∀ a j, KH a j → rd M' a j = rd M a j) : HR M' r := by
  obtain ⟨h1, h2, h3, h4, h5, h6, h7, h8, h9, h10, h11, h12⟩ := h
  have e := fun a j (q : 1 ≤ a ∧ a ≤ 12) => hf a j q
  refine ⟨?_, fun s a b => ?_, fun s a b => ?_, fun s a b => ?_, ?_, ?_, ?_, fun s a b => ?_, ?_, ?_, fun a => ?_, fun s a b => ?_⟩
  · rw [e _ _ (by decide)]; exact h1
  · rw [e _ _ (by decide), e _ _ (by decide), e _ _ (by decide)]; exact h2 s a b
  · rw [e _ _ (by decide), e _ _ (by decide), e _ _ (by decide)]; exact h3 s a b
  · rw [e _ _ (by decide)]; exact h4 s a b
  · rw [e _ _ (by decide)]; exact h5
  · rw [e _ _ (by decide)]; exact h6
  · rw [e _ _ (by decide)]; exact h7
  · rw [e _ _ (by decide)]; exact h8 s a b
  · rw [e _ _ (by decide)]; exact h9
  · rw [e _ _ (by decide)]; exact h10
  · rw [e _ _ (by decide)]; exact h11 a
  · rw [e _ _ (by decide), e _ _ (by decide)]; exact h12 s a b
section HS
variable {G : GG} {d : Nat} {M : MM} {Q : PV → MM → Prop} {r : Int → Int}
theorem S_X4_minutesOf {p : Int} (hS : Sh M) (hH : HR M r) (hV : RS r) (hd : 1 ≤ d) (h : Q (vI (mnO r p)) M) : C G Y_X4_minutesOf d 0 0 [vA 1, vI p] M Q := by
  refine C_X4_minutesOf (B_X4_minutesOf_0 hd hS ?_)
  have e0 := hH.1
  have h0 := hV.1
  have h5 := hV.2.1
  have key : ∀ m s : Nat, s + m = (r 0).toNat → X G Y_X4_minutesOf d 0 0 4 [vA 1, vI p, vI (sumTo (fun s => if bt p s = 1 then r (10 + 3 * s) else 0) s), vI s] [] M Q := by
    intro m
    induction m with
    | zero =>
      intro s hs
      refine B_X4_minutesOf_4 hd hS ⟨⟨by omega, by omega⟩, ⟨by omega, by omega⟩, fun c => ?_, fun c => by omega⟩
      have : s = (r 0).toNat := by omega
      subst this; exact h
    | succ m ih =>
      intro s hs
      have hh := hH.2.1 s (by omega) (by omega)
      refine B_X4_minutesOf_4 hd hS ⟨⟨by omega, by omega⟩, ⟨by omega, by omega⟩, fun c => by omega, fun c => ⟨fun b => ?_, fun b => ⟨by omega, by omega, fun v e => ?_⟩⟩⟩
      · have := ih (s + 1) (by omega)
        rw [sumTo, if_neg b, Int.add_zero] at this
        exact this
      · have := ih (s + 1) (by omega)
        rw [sumTo, if_pos b, ← hh.1, ← e] at this
        exact this
  exact key _ 0 (Nat.zero_add _)
def inRow (f : Int → Int) (v : Int) (n : Int) : Bool := anyTo (fun i => decide (f i = v)) n.toNat
theorem S_X4_booked {v : Int} (hS : Sh M) (hH : HR M r) (hV : RS r) (hv : inR v) (hd : 1 ≤ d) (h : Q (vI (if inRow (fun i => r (45 + i)) v (r 3) = true then 1 else 0)) M) : C G Y_X4_booked d 0 0 [vA 1, vI v] M Q := by
  refine C_X4_booked (B_X4_booked_0 hd hS ?_)
  have e0 := hH.2.2.2.2.2.2.1
  obtain ⟨_, _, _, _, _, _, _, _, _, _, _, _, _, _, h0, h5, hb, _⟩ := hV
  have key : ∀ m s : Nat, s + m = (r 3).toNat → anyTo (fun i => decide (r (45 + i) = v)) s = false → X G Y_X4_booked d 0 0 2 [vA 1, vI v, vI s] [] M Q := by
    intro m
    induction m with
    | zero =>
      intro s hs ha
      refine B_X4_booked_2 hd hS ⟨⟨by omega, by omega⟩, ⟨by omega, by omega⟩, fun c => ?_, fun c => by omega⟩
      have : s = (r 3).toNat := by omega
      subst this
      unfold inRow at h
      rw [ha, if_neg (by decide)] at h
      exact h
    | succ m ih =>
      intro s hs ha
      have hh := hH.2.2.2.2.2.2.2.1 s (by omega) (by omega)
      have hbb := hb s (by omega) (by omega)
      refine B_X4_booked_2 hd hS ⟨⟨by omega, by omega⟩, ⟨by omega, by omega⟩, fun c => by omega, fun c => ⟨by omega, by omega, ⟨by omega, by omega⟩, hv, fun b => ?_, fun b => ?_⟩⟩
      · refine ih (s + 1) (by omega) ?_
        rw [anyTo, ha, ← hh]
        simp [b]
      · have : inRow (fun i => r (45 + i)) v (r 3) = true := anyTo_iff.mpr ⟨s, by omega, by omega, by simp [← hh, b]⟩
        rw [this, if_pos rfl] at h
        exact h
  exact key _ 0 (Nat.zero_add _) rfl
theorem S_X4_headsCould {sc hd' : Int} (hS : Sh M) (hH : HR M r) (hV : RS r) (hv : inR sc) (hw : inR hd') (hd : 1 ≤ d)
    (h : Q (vI (if r 5 ≠ -1 ∧ r 4 ≠ 5 ∧ hd' ≤ (if r 4 = 0 then r 5 else r (55 + (r 4 - 1))) ∧ inRow (fun i => r (50 + i)) sc (r 4) = false then 1 else 0)) M) : C G Y_X4_headsCould d 0 0 [vA 1, vI sc, vI hd'] M Q := by
  refine C_X4_headsCould (B_X4_headsCould_0 hd hS ?_)
  obtain ⟨_, _, _, _, _, _, _, _, e16, e13, e5, e12⟩ := hH
  obtain ⟨_, _, _, _, _, _, _, _, _, _, _, _, _, _, _, _, _, _, h0, h5, hf0, hf1, hfi, hb, _⟩ := hV
  have e11 : r 5 ≠ -1 → rd M 11 (r 4) = (if r 4 = 0 then r 5 else r (55 + (r 4 - 1))) := by
    intro q
    by_cases e : r 4 = 0
    · rw [if_pos e, e]; exact e5 q
    · rw [if_neg e]
      have := (e12 (r 4 - 1) (by omega) (by omega)).2
      rw [show r 4 - 1 + 1 = r 4 by omega] at this
      exact this
  have b13 : inR (rd M 1 13) := by rw [e13]; split <;> exact ⟨by decide, by decide⟩
  refine ⟨b13, ⟨by omega, by omega⟩, fun c => ?_, fun c => ?_⟩
  · rw [if_neg] at h
    · exact h
    · intro q
      rcases c with c | c
      · rw [e13, if_neg q.1] at c; exact absurd c (by decide)
      · exact q.2.1 (by omega)
  · have hn : r 5 ≠ -1 := fun q => c (Or.inl (by rw [e13, if_pos q]))
    have e11 := e11 hn
    have hr4 : r 4 ≠ 5 := fun q => c (Or.inr (by omega))
    rw [e16, e11]
    have hbd : inR (if r 4 = 0 then r 5 else r (55 + (r 4 - 1))) := by
      by_cases e : r 4 = 0
      · rw [if_pos e]; exact ⟨by omega, by omega⟩
      · rw [if_neg e]; have := hb (r 4 - 1) (by omega) (by omega); exact ⟨by omega, by omega⟩
    refine ⟨by omega, by omega, hw, hbd, fun q => ?_, fun q => ?_⟩
    · have key : ∀ m s : Nat, s + m = (r 4).toNat → anyTo (fun i => decide (r (50 + i) = sc)) s = false → X G Y_X4_headsCould d 0 0 32 [vA 1, vI sc, vI hd', vI s] [] M Q := by
        intro m
        induction m with
        | zero =>
          intro s hs ha
          refine B_X4_headsCould_32 hd hS ⟨⟨by omega, by omega⟩, ⟨by omega, by omega⟩, fun c => ?_, fun c => by omega⟩
          have : s = (r 4).toNat := by omega
          subst this
          rw [if_pos ⟨hn, hr4, q, ha⟩] at h
          exact h
        | succ m ih =>
          intro s hs ha
          have hh := e12 s (by omega) (by omega)
          have hbb := hb s (by omega) (by omega)
          refine B_X4_headsCould_32 hd hS ⟨⟨by omega, by omega⟩, ⟨by omega, by omega⟩, fun c => by omega, fun c => ⟨by omega, by omega, ⟨by omega, by omega⟩, hv, fun b => ?_, fun b => ?_⟩⟩
          · refine ih (s + 1) (by omega) ?_
            rw [anyTo, ha, ← hh.1]
            simp [b]
          · have : inRow (fun i => r (50 + i)) sc (r 4) = true := anyTo_iff.mpr ⟨s, by omega, by omega, by simp [← hh.1, b]⟩
            rw [if_neg (fun z => by rw [this] at z; exact absurd z.2.2.2 (by decide))] at h
            exact h
      exact key _ 0 (Nat.zero_add _) rfl
    · rw [if_neg (fun z => by omega)] at h
      exact h
def fitS (w v : Int) : Prop := (w = 0 ∧ 1 ≤ v ∧ v ≤ 60) ∨ (w = 1 ∧ 0 ≤ v ∧ v < 32) ∨ (w = 2 ∧ (v = 0 ∨ v = 1))
theorem S_X4_fitsScene {w v : Int} (hw : inR w) (hv : inR v) (hd : 1 ≤ d) (h : Q (vI (if (w = 0 ∧ 1 ≤ v ∧ v ≤ 60) ∨ (w = 1 ∧ 0 ≤ v ∧ v < 32) ∨ (w = 2 ∧ (v = 0 ∨ v = 1)) then 1 else 0)) M) : C G Y_X4_fitsScene d 0 0 [vI w, vI v] M Q := by
  refine C_X4_fitsScene (B_X4_fitsScene_0 hd ⟨hw, fun c => ?_, fun c => ⟨hv, ?_⟩, fun c => ⟨hv, ?_⟩, fun c => ⟨hv, ?_⟩⟩)
  · rw [if_neg (by omega)] at h; exact h
  · simp only [c] at h; simpa using h
  · simp only [c] at h; simpa using h
  · simp only [c] at h; simpa using h
theorem S_bitCount {x : Int} (h0 : 0 ≤ x) (h1 : x < 32) (hd : 1 ≤ d) (h : Q (vI (pop x)) M) : C G Y_J6_bitCount_0f7a4 d 0 0 [vI x] M Q := by
  refine C_J6_bitCount_0f7a4 (B_J6_bitCount_0f7a4_0 hd ?_)
  intro v1 e1 v2 e2 v3 e3 v4 e4 v5 e5
  have : iAnd v5 63 = pop x := by
    subst e5 e4 e3 e2 e1
    exact finI (P := fun x => iAnd (iAnd ((iAnd (x - iAnd (iUshr x 1) 1431655765) 858993459 + iAnd (iUshr (x - iAnd (iUshr x 1) 1431655765) 2) 858993459) + iUshr (iAnd (x - iAnd (iUshr x 1) 1431655765) 858993459 + iAnd (iUshr (x - iAnd (iUshr x 1) 1431655765) 2) 858993459) 4) 252645135 + iUshr (iAnd ((iAnd (x - iAnd (iUshr x 1) 1431655765) 858993459 + iAnd (iUshr (x - iAnd (iUshr x 1) 1431655765) 2) 858993459) + iUshr (iAnd (x - iAnd (iUshr x 1) 1431655765) 858993459 + iAnd (iUshr (x - iAnd (iUshr x 1) 1431655765) 2) 858993459) 4) 252645135) 8 + iUshr (iAnd ((iAnd (x - iAnd (iUshr x 1) 1431655765) 858993459 + iAnd (iUshr (x - iAnd (iUshr x 1) 1431655765) 2) 858993459) + iUshr (iAnd (x - iAnd (iUshr x 1) 1431655765) 858993459 + iAnd (iUshr (x - iAnd (iUshr x 1) 1431655765) 2) 858993459) 4) 252645135 + iUshr (iAnd ((iAnd (x - iAnd (iUshr x 1) 1431655765) 858993459 + iAnd (iUshr (x - iAnd (iUshr x 1) 1431655765) 2) 858993459) + iUshr (iAnd (x - iAnd (iUshr x 1) 1431655765) 858993459 + iAnd (iUshr (x - iAnd (iUshr x 1) 1431655765) 2) 858993459) 4) 252645135) 8) 16) 63 = pop x) 32 (by decide +kernel) h0 h1
  rw [this]; exact h
theorem S_X12_bits {x : Int} (h0 : 0 ≤ x) (h1 : x < 32) (hd : 1 ≤ d) (h : Q (vI (pop x)) M) : C G Y_X12_bits d 0 0 [vI x] M Q := by
  refine C_X12_bits (B_X12_bits_0 hd ?_)
  have key : ∀ m s : Nat, s + m = 5 → X G Y_X12_bits d 0 0 4 [vI x, vI (sumTo (fun s => bt x s) s), vI s] [] M Q := by
    intro m
    induction m with
    | zero =>
      intro s hs
      refine B_X12_bits_4 hd ⟨⟨by omega, by omega⟩, fun c => ?_, fun c => by omega⟩
      have : s = 5 := by omega
      subst this; exact h
    | succ m ih =>
      intro s hs
      refine B_X12_bits_4 hd ⟨⟨by omega, by omega⟩, fun c => by omega, fun c v e => ?_⟩
      subst e
      exact ih (s + 1) (by omega)
  exact key _ 0 (Nat.zero_add _)
end HS
section HS2
variable {G : GG} {d : Nat} {M : MM} {Q : PV → MM → Prop} {r : Int → Int}
theorem S_X4_endWithin {p : Int} (hS : Sh M) (hH : HR M r) (hV : RS r) (hd : 2 ≤ d) (h : Q (vI (if endW r p = true then 1 else 0)) M) : C G Y_X4_endWithin d 0 0 [vA 1, vI p] M Q := by
  refine C_X4_endWithin (B_X4_endWithin_0 (by omega) hS ?_)
  have e0 := hH.1
  have h0 := hV.1
  have h5 := hV.2.1
  have key : ∀ m s : Nat, s + m = (r 0).toNat → anyTo (fun s => decide (bt p s = 1) && decide (r (12 + 3 * s) = 1)) s = false → X G Y_X4_endWithin d 0 0 2 [vA 1, vI p, vI s] [] M Q := by
    intro m
    induction m with
    | zero =>
      intro s hs ha
      refine B_X4_endWithin_2 hd hS ⟨⟨by omega, by omega⟩, ⟨by omega, by omega⟩, fun c => ?_, fun c => by omega⟩
      have : s = (r 0).toNat := by omega
      subst this
      unfold endW at h
      rw [ha, if_neg (by decide)] at h
      exact h
    | succ m ih =>
      intro s hs ha
      have hh := hH.2.1 s (by omega) (by omega)
      have hb := hV.2.2.1 s (by omega) (by omega)
      refine B_X4_endWithin_2 hd hS ⟨⟨by omega, by omega⟩, ⟨by omega, by omega⟩, fun c => by omega, fun c => ⟨fun b => ?_, fun b => ⟨by omega, by omega, ⟨by omega, by omega⟩, fun q => ?_, fun q => ?_⟩⟩⟩
      · refine ih (s + 1) (by omega) ?_
        rw [anyTo, ha]; simp [b]
      · refine ih (s + 1) (by omega) ?_
        rw [hh.2.2] at q
        rw [anyTo, ha]; simp [q]
      · have : endW r p = true := anyTo_iff.mpr ⟨s, by omega, by omega, by rw [hh.2.2] at q; simp [b, q]⟩
        rw [this, if_pos rfl] at h
        exact h
  exact key _ 0 (Nat.zero_add _) rfl
theorem S_X12_minutesOf {p : Int} (hS : Sh M) (hV : RS (rd M 69)) (hd : 2 ≤ d) (h : Q (vI (mnO (rd M 69) p)) M) : C G Y_X12_minutesOf d 0 0 [vA 67, vI p] M Q := by
  refine C_X12_minutesOf (B_X12_minutesOf_0 (by omega) hS ?_)
  have h0 := hV.1
  have h5 := hV.2.1
  have key : ∀ m s : Nat, s + m = (rd M 69 0).toNat → X G Y_X12_minutesOf d 0 0 4 [vA 67, vI p, vI (sumTo (fun s => if bt p s = 1 then rd M 69 (10 + 3 * s) else 0) s), vI s] [] M Q := by
    intro m
    induction m with
    | zero =>
      intro s hs
      refine B_X12_minutesOf_4 hd hS ⟨⟨by omega, by omega⟩, ⟨by omega, by omega⟩, fun c => ?_, fun c => by omega⟩
      have : s = (rd M 69 0).toNat := by omega
      subst this; exact h
    | succ m ih =>
      intro s hs
      refine B_X12_minutesOf_4 hd hS ⟨⟨by omega, by omega⟩, ⟨by omega, by omega⟩, fun c => by omega, fun c => ⟨fun b v e => ?_, fun b => ⟨by omega, by omega, fun v e => ?_⟩⟩⟩
      · have := ih (s + 1) (by omega)
        rw [sumTo, if_neg b, ← e] at this
        exact this
      · have := ih (s + 1) (by omega)
        rw [Int.add_zero] at e
        rw [sumTo, if_pos b, ← e] at this
        exact this
  exact key _ 0 (Nat.zero_add _)
def accM (M : MM) : MM := wr M 0 7 0
def wasM (M : MM) : MM := wr M 67 1 0
def rfP (c : Int) : Int := if c ≤ -4 then -2 - c else -1 - c
def refM (M : MM) (c : Int) : MM := wr (wr M 15 (rfP c) (rd M 15 (rfP c) + 1)) 0 7 c
def telM (M : MM) (v : Int) : MM := if 0 ≤ v then wr M 67 1 0 else wr (wr M 67 1 v) 68 (-v) (rd M 68 (-v) + 1)
theorem sRef {c : Int} (hS : Sh M) : Sh (refM M c) := sW_0_7 (sW_15 hS)
theorem sTel {v : Int} (hS : Sh M) : Sh (telM M v) := by
  unfold telM
  split
  · exact sW_67_1 hS
  · exact sW_68 (sW_67_1 hS)
theorem S_X11_accept {v : Int} (hS : Sh M) (hd : 1 ≤ d) (h : Q (vI v) (accM M)) : C G Y_X11_accept d 0 0 [vA 0, vI v] M Q := C_X11_accept (B_X11_accept_0 hd hS fun _ e _ => by subst e; exact h)
theorem S_X12_was {v : Int} (hS : Sh M) (hd : 1 ≤ d) (h : Q (vI v) (wasM M)) : C G Y_X12_was d 0 0 [vA 67, vI v] M Q := C_X12_was (B_X12_was_0 hd hS fun _ e _ => by subst e; exact h)
theorem S_X11_refuse {c : Int} (hS : Sh M) (hc : 0 ≤ rfP c ∧ rfP c < 5 ∧ inR c) (hd : 1 ≤ d) (h : Q (vI c) (refM M c)) : C G Y_X11_refuse d 0 0 [vA 0, vI c] M Q :=
  C_X11_refuse (B_X11_refuse_0 hd hS ⟨hc.2.2, fun v e => by
    have e : v = rfP c := e
    subst e
    exact ⟨hc.1, hc.2.1, fun _ e1 _ _ e2 _ => by subst e1 e2; exact h⟩⟩)
theorem S_X12_tell {v : Int} (hS : Sh M) (hc : -7 < v ∧ inR v) (hd : 1 ≤ d) (h : Q (vI v) (telM M v)) : C G Y_X12_tell d 0 0 [vA 67, vI v] M Q :=
  C_X12_tell (B_X12_tell_0 hd hS ⟨hc.2, fun M1 e1 _ => ⟨fun c => by
    subst e1
    unfold telM at h
    rw [if_pos c] at h ⊢
    exact h, fun c => ⟨by omega, by omega, fun M2 e2 _ => by
    subst e2 e1
    unfold telM at h
    rw [if_neg (by omega)] at h ⊢
    exact h⟩⟩⟩)
abbrev fitM (sc w v : Int) : Prop := (w = 0 ∧ 1 ≤ v ∧ v ≤ 60) ∨ (w = 1 ∧ 0 ≤ v ∧ v ≤ 31 ∧ ¬ (0 ≤ sc ∧ sc ≤ 4 ∧ bt v sc = 1)) ∨ (w = 2 ∧ 0 ≤ v ∧ v ≤ 1)
abbrev isStt (p l : Int) : Prop := (l = -1 ∧ p = 0) ∨ (l ≠ -1 ∧ bt p l = 1)
theorem S_X12_fits {sc w v : Int} [Decidable (fitM sc w v)] (h1 : inR sc) (h2 : inR w) (h3 : inR v) (hd : 2 ≤ d) (h : Q (vI (if fitM sc w v then 1 else 0)) M) : C G Y_X12_fits d 0 0 [vI sc, vI w, vI v] M Q := by
  refine C_X12_fits (B_X12_fits_0 hd ⟨h2, fun c => ?_, fun c => ⟨h3, ?_⟩, fun c => ⟨h3, fun q => ?_, fun q => ⟨h1, ?_⟩⟩, fun c => ⟨h3, ?_⟩⟩)
  · rw [if_neg (by unfold fitM; omega)] at h; exact h
  · have e : (if (1 ≤ v) ∧ (v ≤ 60) then (1 : Int) else 0) = if fitM sc w v then 1 else 0 := by
      unfold fitM at *; subst c; congr 1; simp
    rw [e]; exact h
  · rw [if_neg (by unfold fitM; omega)] at h; exact h
  · have e : (if (¬ ((0 ≤ sc) ∧ (sc ≤ 4))) ∨ (¬ (bt v sc = 1)) then (1 : Int) else 0) = if fitM sc w v then 1 else 0 := by
      by_cases z : 0 ≤ sc ∧ sc ≤ 4 ∧ bt v sc = 1
      · rw [if_neg (by omega), if_neg (by unfold fitM; omega)]
      · rw [if_pos (by omega), if_pos (by unfold fitM; omega)]
    rw [e]; exact h
  · have e : (if (0 ≤ v) ∧ (v ≤ 1) then (1 : Int) else 0) = if fitM sc w v then 1 else 0 := by
      by_cases z : 0 ≤ v ∧ v ≤ 1
      · rw [if_pos z, if_pos (by unfold fitM; omega)]
      · rw [if_neg z, if_neg (by unfold fitM; omega)]
    rw [e]; exact h
theorem S_X12_isState {p l : Int} [Decidable (isStt p l)] (hS : Sh M) (h1 : inR p) (h2 : inR l) (hd : 2 ≤ d) (h : Q (vI (if isStt p l then 1 else 0)) M) : C G Y_X12_isState d 0 0 [vA 67, vI p, vI l] M Q := by
  refine C_X12_isState (B_X12_isState_0 hd hS ⟨h2, h1, ?_, ?_⟩)
  · split
    · split <;> decide
    · split <;> decide
  · have e : (if l ≠ (-1) then (if (iAnd (iShr p l) 1) = 1 then 1 else 0) else (if p ≠ 0 then 0 else 1)) = if isStt p l then (1 : Int) else 0 := by
      unfold isStt at *
      by_cases z : l = -1
      · simp [z]
      · simp [z]
    rw [e]; exact h
theorem S_X11_isLatest {p l : Int} (h1 : inR p) (h2 : inR l) (hd : 2 ≤ d) (h : Q (vI (if (p = 0 ∧ l = -1) ∨ (p ≠ 0 ∧ 0 ≤ l ∧ l < 5 ∧ bt p l = 1) then 1 else 0)) M) : C G Y_X11_isLatest d 0 0 [vI p, vI l] M Q := by
  refine C_X11_isLatest (B_X11_isLatest_0 hd ⟨h1, fun c => ⟨h2, ?_⟩, fun c => ⟨h2, ?_⟩⟩)
  · simpa [c] using h
  · simpa [c] using h
def begM (M : MM) (t c q : Int) : MM := wr (wr (wr M t 10 c) t 11 q) t 9 (rd M t 9 + 1)
theorem sBeg {t c q : Int} (ht : t = 32 ∨ t = 44) (hS : Sh M) : Sh (begM M t c q) := sWt_0_9 ht (sWt_0_11 ht (sWt_0_10 ht hS))
theorem S_X9_begins {z c q : Int} (ht : z = 32 ∨ z = 44) (hS : Sh M) (hd : 1 ≤ d) (h : Q vU (begM M z c q)) : C G Y_X9_begins d 0 0 [vA z, vI c, vI q] M Q :=
  C_X9_begins (B_X9_begins_0 hd ht hS fun M1 e1 _ M2 e2 _ M3 e3 _ => by
    subst e3 e2 e1
    have : rd (wr (wr M z 10 c) z 11 q) z 9 = rd M z 9 := by simp [rd_wr]
    rw [this]; exact h)
theorem S_X6_bookChanged (hS : Sh M) (hd : 1 ≤ d) (h : Q vU (wr M 39 4 0)) : C G Y_X6_bookChanged d 0 0 [vA 39] M Q := C_X6_bookChanged (B_X6_bookChanged_0 hd hS fun _ e _ => by subst e; exact h)
end HS2
