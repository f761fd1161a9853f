/-! ===== the model's tokens ===== -/
def dgM (tx : Int → Int) (p : Int) : Nat → Int
  | 0 => 0
  | t + 1 => if dgM tx p t ≤ 1000000 then dgM tx p t * 10 + tx (p + t) - 48 else dgM tx p t
theorem dgM_ok {tx : Int → Int} {p : Int} : ∀ n : Nat, (∀ i : Int, 0 ≤ i → i < n → 48 ≤ tx (p + i) ∧ tx (p + i) ≤ 57) → 0 ≤ dgM tx p n ∧ dgM tx p n ≤ 10000009 ∧ (dgM tx p n ≤ 1000 → nmP tx p n = dgM tx p n) ∧ (1000 < dgM tx p n → nmP tx p n = 1001)
  | 0, _ => ⟨by show (0 : Int) ≤ 0; decide, by show (0 : Int) ≤ 10000009; decide, fun _ => rfl, fun h => absurd h (by show ¬ (1000 : Int) < 0; decide)⟩
  | n + 1, h => by
    obtain ⟨a, b, c, e⟩ := dgM_ok n (fun i i0 i1 => h i i0 (by omega))
    have x := h n (by omega) (by omega)
    rw [dgM, nmP]
    by_cases q : dgM tx p n ≤ 1000
    · have := c q
      rw [this, if_pos (show dgM tx p n ≤ 1000000 by omega)]
      refine ⟨by omega, by omega, fun w => ?_, fun w => ?_⟩
      · rw [if_neg (by omega)]
      · split <;> omega
    · have := e (by omega)
      have e2 : (if 1001 < 1001 * 10 + tx (p + n) - 48 then (1001 : Int) else 1001 * 10 + tx (p + n) - 48) = 1001 := if_pos (by omega)
      rw [this, e2]
      by_cases y : dgM tx p n ≤ 1000000
      · rw [if_pos y]; exact ⟨by omega, by omega, fun w => by omega, fun _ => rfl⟩
      · rw [if_neg y]; exact ⟨a, b, fun w => by omega, fun _ => rfl⟩
theorem wdM_b {tx : Int → Int} {p : Int} : ∀ n : Nat, (∀ i : Int, 0 ≤ i → i < n → 97 ≤ tx (p + i) ∧ tx (p + i) ≤ 122) → -1 ≤ wdM tx p n ∧ wdM tx p n ≤ 1125899906842623 ∧ ((n : Int) < 10 → wdM tx p n < 35184372088832)
  | n, h => by
    have key : ∀ m : Nat, m ≤ n → m ≤ 10 → 0 ≤ wdM tx p m ∧ wdM tx p m < 32 ^ m := by
      intro m
      induction m with
      | zero => intro _ _; exact ⟨by show (0 : Int) ≤ 0; decide, by show (0 : Int) < 32 ^ 0; decide⟩
      | succ m ih =>
        intro hm hm2
        have i1 := ih (by omega) (by omega)
        have x := h m (by omega) (by omega)
        rw [wdM, if_pos (by omega), Int.pow_succ]
        omega
    by_cases q : n ≤ 10
    · have k := key n (Nat.le_refl _) q
      have p10 : ∀ m : Nat, m ≤ 10 → (32 : Int) ^ m ≤ 1125899906842624 ∧ (m < 10 → (32 : Int) ^ m ≤ 35184372088832) := by decide
      have := p10 n q
      refine ⟨by omega, by omega, fun w => ?_⟩
      have := this.2 (by omega)
      omega
    · rw [wdM_big tx p n (by omega)]
      exact ⟨by omega, by omega, fun w => by omega⟩
/-- what the model's token says of its kind -/
def SW (so wo k : Int) : Prop := (so = 0 ∧ k = 256) ∨ (so = 1 ∧ ((∃ q : Int, 0 ≤ q ∧ q < 13 ∧ k = 300 + q ∧ wo = gt wcdL q) ∨ (k = 257 ∧ ∀ q : Int, 0 ≤ q → q < 13 → wo ≠ gt wcdL q))) ∨ (so = 2 ∧ ((0 ≤ wo ∧ wo ≤ 1000 ∧ k = 1000 + wo) ∨ (1000 < wo ∧ k = 2001))) ∨ (so = 3 ∧ 0 ≤ k ∧ k ≤ 255 ∧ wo = k)
def inW (so wo : Int) : Prop := 0 ≤ so ∧ so ≤ 3 ∧ -2 ≤ wo ∧ wo ≤ 1125899906842624
theorem inW.r {so wo : Int} (h : inW so wo) : inR so ∧ inL wo := by
  obtain ⟨a, b, c, e⟩ := h
  exact ⟨⟨by omega, by omega⟩, ⟨by omega, by omega⟩⟩
theorem SW.sign {so wo k c : Int} (h : SW so wo k) (c0 : 0 ≤ c) (c1 : c ≤ 255) : (so = 3 ∧ wo = c) ↔ k = c := by
  rcases h with ⟨h1, h2⟩ | ⟨h1, h2⟩ | ⟨h1, h2⟩ | ⟨h1, h2, h3, h4⟩
  · omega
  · rcases h2 with ⟨q, q0, q1, e, _⟩ | ⟨e, _⟩ <;> omega
  · omega
  · omega
theorem SW.word {so wo k q : Int} (h : SW so wo k) (q0 : 0 ≤ q) (q1 : q < 13) : (so = 1 ∧ wo = gt wcdL q) ↔ k = 300 + q := by
  rcases h with ⟨h1, h2⟩ | ⟨h1, h2⟩ | ⟨h1, h2⟩ | ⟨h1, h2, h3, h4⟩
  · omega
  · rcases h2 with ⟨q', q0', q1', e, w⟩ | ⟨e, w⟩
    · constructor
      · intro y
        have := wcd_inj q0' q1' q0 q1 (w.symm.trans y.2)
        omega
      · intro y
        have : q' = q := by omega
        rw [this] at w
        exact ⟨h1, w⟩
    · constructor
      · intro y; exact absurd y.2 (w q q0 q1)
      · intro y; omega
  · omega
  · omega
def KTm (a j : Int) : Prop := a = 67 ∧ (j = 9 ∨ j = 10 ∨ j = 11 ∨ j = 12)
section TM
variable {G : GG} {d : Nat} {M M0 : MM} {Q : PV → MM → Prop} {tx : Int → Int} {L : Int}
/-- the model's tape -/
def TpM (M : MM) (tx : Int → Int) (L : Int) : Prop := (∀ j, rd M 72 j = tx j) ∧ rd M 67 8 = L ∧ rd M 67 13 = -1
theorem TpM.fr (h : TpM M0 tx L) (hf : Fr KTm M0 M) : TpM M tx L := ⟨fun j => by rw [hf.2.2 72 j (by unfold KTm; omega)]; exact h.1 j, by rw [hf.2.2 67 8 (by unfold KTm; omega)]; exact h.2.1, by rw [hf.2.2 67 13 (by unfold KTm; omega)]; exact h.2.2⟩
theorem goOn_243 {k n : Nat} {p : Int} (hd : 2 ≤ d) (hb : Byt tx L) (hL : L ≤ 400) (p0 : 0 ≤ p) (hT : TpM M0 tx L)
    (h : ∀ M', Sh M' → Fr KTm M0 M' → rd M' 67 9 = p → rd M' 67 10 = runE (fun q => isDg (tx q)) L p → rd M' 67 11 = 2 → rd M' 67 12 = dgM tx p (runE (fun q => isDg (tx q)) L p - p).toNat → Q vU M') :
    ∀ (m : Nat) (M : MM) (q : Int), (L - q).toNat = m → p ≤ q → q ≤ L → Sh M → Fr KTm M0 M → rd M 67 9 = p → rd M 67 10 = q → rd M 67 11 = 2 → rd M 67 12 = dgM tx p (q - p).toNat → (∀ i : Int, p ≤ i → i < q → 48 ≤ tx i ∧ tx i ≤ 57) → runE (fun q => isDg (tx q)) L q = runE (fun q => isDg (tx q)) L p → X G Y_X12_goOn d k n 243 [vA 67] [] M Q
  | 0, M, q, hm, q0, q1, hS, hF, e9, e10, e11, e12, hg, hr => by
    have hT' := hT.fr hF
    have : q = L := by omega
    refine B_X12_goOn_243 hd hS ⟨by rw [e11]; exact ⟨by decide, by decide⟩, by rw [e10]; exact ⟨by omega, by omega⟩, by rw [hT'.2.1]; exact ⟨by omega, by omega⟩, fun _ => ?_, fun w => absurd (Or.inr (by rw [e10, hT'.2.1]; omega)) w⟩
    have e : runE (fun q => isDg (tx q)) L q = q := runE_n (by omega)
    exact h M hS hF e9 (by rw [← hr, e, e10]) e11 (by rw [← hr, e]; exact e12)
  | m + 1, M, q, hm, q0, q1, hS, hF, e9, e10, e11, e12, hg, hr => by
    have hT' := hT.fr hF
    have hq : q < L := by omega
    have hD := dgM_ok (tx := tx) (p := p) (q - p).toNat (fun i i0 i1 => hg (p + i) (by omega) (by omega))
    refine B_X12_goOn_243 hd hS ⟨by rw [e11]; exact ⟨by decide, by decide⟩, by rw [e10]; exact ⟨by omega, by omega⟩, by rw [hT'.2.1]; exact ⟨by omega, by omega⟩, fun w => ?_, fun w => ?_⟩
    · rw [e10, e11, hT'.2.1] at w
      rcases w with w | w <;> omega
    · rw [e10, hT'.1]
      refine ⟨by omega, by omega, hb.r (by omega) hq, fun y => ?_, fun y => ⟨by rw [e12]; exact ⟨by omega, by omega⟩, fun z M19 e19 s19 M20 e20 s20 => ?_, fun z M19 e19 s19 M20 e20 s20 => ?_⟩⟩
      · have e : runE (fun q => isDg (tx q)) L q = q := runE_n (fun z => y (isDg_iff.mp z.2))
        exact h M hS hF e9 (by rw [← hr, e, e10]) e11 (by rw [← hr, e]; exact e12)
      · have e1910 : rd M19 67 10 = q := by rw [e19, rd_wr, if_neg (by omega)]; exact e10
        refine goOn_243 hd hb hL p0 hT h m M20 (q + 1) (by omega) (by omega) (by omega) s20 (by rw [e20, e19]; exact (hF.wr ⟨rfl, by omega⟩).wr ⟨rfl, by omega⟩) (by rw [e20, rd_wr, if_neg (by omega), e19, rd_wr, if_neg (by omega)]; exact e9) (by rw [e20, rd_wr, if_pos ⟨rfl, rfl⟩, e1910]) (by rw [e20, rd_wr, if_neg (by omega), e19, rd_wr, if_neg (by omega)]; exact e11) ?_ (fun i i0 i1 => ?_) ?_
        · rw [e20, rd_wr, if_neg (by omega), e19, rd_wr, if_pos ⟨rfl, rfl⟩, show (q + 1 - p).toNat = (q - p).toNat + 1 by omega, dgM, ← e12, if_pos z, show p + ((q - p).toNat : Int) = q by omega]
        · by_cases c : i = q
          · rw [c]; exact y
          · exact hg i i0 (by omega)
        · rw [← hr]; exact (runE_y (c := fun q => isDg (tx q)) hq (isDg_iff.mpr y)).symm
      · have e1910 : rd M19 67 10 = q := by rw [e19, rd_wr, if_neg (by omega)]; exact e10
        refine goOn_243 hd hb hL p0 hT h m M20 (q + 1) (by omega) (by omega) (by omega) s20 (by rw [e20, e19]; exact (hF.wr ⟨rfl, by omega⟩).wr ⟨rfl, by omega⟩) (by rw [e20, rd_wr, if_neg (by omega), e19, rd_wr, if_neg (by omega)]; exact e9) (by rw [e20, rd_wr, if_pos ⟨rfl, rfl⟩, e1910]) (by rw [e20, rd_wr, if_neg (by omega), e19, rd_wr, if_neg (by omega)]; exact e11) ?_ (fun i i0 i1 => ?_) ?_
        · rw [e20, rd_wr, if_neg (by omega), e19, rd_wr, if_pos ⟨rfl, rfl⟩, show (q + 1 - p).toNat = (q - p).toNat + 1 by omega, dgM, ← e12, if_neg (by omega)]
        · by_cases c : i = q
          · rw [c]; exact y
          · exact hg i i0 (by omega)
        · rw [← hr]; exact (runE_y (c := fun q => isDg (tx q)) hq (isDg_iff.mpr y)).symm
/-- neither word nor digits, or a word that is over -/
theorem goOn_243x {k n : Nat} (hd : 2 ≤ d) (hS : Sh M) (h11 : rd M 67 11 ≠ 2) (i11 : inR (rd M 67 11)) (i10 : inR (rd M 67 10)) (i8 : inR (rd M 67 8)) (h : Q vU M) : X G Y_X12_goOn d k n 243 [vA 67] [] M Q :=
  B_X12_goOn_243 hd hS ⟨i11, i10, i8, fun _ => h, fun w => absurd (Or.inl h11) w⟩
theorem goOn_149 {k n : Nat} {p : Int} (hd : 2 ≤ d) (hb : Byt tx L) (hL : L ≤ 400) (p0 : 0 ≤ p) (hT : TpM M0 tx L)
    (h : ∀ M', Sh M' → Fr KTm M0 M' → rd M' 67 9 = p → rd M' 67 10 = runE (fun q => isLt (tx q)) L p → rd M' 67 11 = 1 → rd M' 67 12 = wdM tx p (runE (fun q => isLt (tx q)) L p - p).toNat → Q vU M') :
    ∀ (m : Nat) (M : MM) (q : Int), (L - q).toNat = m → p ≤ q → q ≤ L → Sh M → Fr KTm M0 M → rd M 67 9 = p → rd M 67 10 = q → rd M 67 11 = 1 → rd M 67 12 = wdM tx p (q - p).toNat → (∀ i : Int, p ≤ i → i < q → 97 ≤ tx i ∧ tx i ≤ 122) → runE (fun q => isLt (tx q)) L q = runE (fun q => isLt (tx q)) L p → X G Y_X12_goOn d k n 149 [vA 67] [] M Q
  | 0, M, q, hm, q0, q1, hS, hF, e9, e10, e11, e12, hg, hr => by
    have hT' := hT.fr hF
    have : q = L := by omega
    have i11 : inR (rd M 67 11) := by rw [e11]; exact ⟨by decide, by decide⟩
    have i10 : inR (rd M 67 10) := by rw [e10]; exact ⟨by omega, by omega⟩
    have i8 : inR (rd M 67 8) := by rw [hT'.2.1]; exact ⟨by omega, by omega⟩
    refine B_X12_goOn_149 hd hS ⟨i11, i10, i8, fun _ => ?_, fun w => absurd (Or.inr (by rw [e10, hT'.2.1]; omega)) w⟩
    have e : runE (fun q => isLt (tx q)) L q = q := runE_n (by omega)
    exact goOn_243x hd hS (by rw [e11]; decide) i11 i10 i8 (h M hS hF e9 (by rw [← hr, e, e10]) e11 (by rw [← hr, e]; exact e12))
  | m + 1, M, q, hm, q0, q1, hS, hF, e9, e10, e11, e12, hg, hr => by
    have hT' := hT.fr hF
    have hq : q < L := by omega
    have i11 : inR (rd M 67 11) := by rw [e11]; exact ⟨by decide, by decide⟩
    have i10 : inR (rd M 67 10) := by rw [e10]; exact ⟨by omega, by omega⟩
    have i8 : inR (rd M 67 8) := by rw [hT'.2.1]; exact ⟨by omega, by omega⟩
    have hD := wdM_b (tx := tx) (p := p) (q - p).toNat (fun i i0 i1 => hg (p + i) (by omega) (by omega))
    refine B_X12_goOn_149 hd hS ⟨i11, i10, i8, fun w => ?_, fun w => ?_⟩
    · rw [e10, e11, hT'.2.1] at w
      rcases w with w | w <;> omega
    · have fin : ¬ (97 ≤ tx q ∧ tx q ≤ 122) → X G Y_X12_goOn d k n 243 [vA 67] [] M Q := fun y => by
        have e : runE (fun q => isLt (tx q)) L q = q := runE_n (fun z => y (isLt_iff.mp z.2))
        exact goOn_243x hd hS (by rw [e11]; decide) i11 i10 i8 (h M hS hF e9 (by rw [← hr, e, e10]) e11 (by rw [← hr, e]; exact e12))
      rw [e10, hT'.1, e9]
      refine ⟨by omega, by omega, hb.r (by omega) hq, fin, fun y => ⟨⟨by omega, by omega⟩, fun z M19 e19 s19 M20 e20 s20 => ?_, fun z M19 e19 s19 M20 e20 s20 => ?_⟩⟩
      · have e1910 : rd M19 67 10 = q := by rw [e19, rd_wr, if_neg (by omega)]; exact e10
        refine goOn_149 hd hb hL p0 hT h m M20 (q + 1) (by omega) (by omega) (by omega) s20 (by rw [e20, e19]; exact (hF.wr ⟨rfl, by omega⟩).wr ⟨rfl, by omega⟩) (by rw [e20, rd_wr, if_neg (by omega), e19, rd_wr, if_neg (by omega)]; exact e9) (by rw [e20, rd_wr, if_pos ⟨rfl, rfl⟩, e1910]) (by rw [e20, rd_wr, if_neg (by omega), e19, rd_wr, if_neg (by omega)]; exact e11) ?_ (fun i i0 i1 => ?_) ?_
        · rw [e20, rd_wr, if_neg (by omega), e19, rd_wr, if_pos ⟨rfl, rfl⟩, show (q + 1 - p).toNat = (q - p).toNat + 1 by omega, wdM, if_neg (by omega)]
        · by_cases c : i = q
          · rw [c]; exact y
          · exact hg i i0 (by omega)
        · rw [← hr]; exact (runE_y (c := fun q => isLt (tx q)) hq (isLt_iff.mpr y)).symm
      · have e1910 : rd M19 67 10 = q := by rw [e19, rd_wr, if_neg (by omega)]; exact e10
        refine goOn_149 hd hb hL p0 hT h m M20 (q + 1) (by omega) (by omega) (by omega) s20 (by rw [e20, e19]; exact (hF.wr ⟨rfl, by omega⟩).wr ⟨rfl, by omega⟩) (by rw [e20, rd_wr, if_neg (by omega), e19, rd_wr, if_neg (by omega)]; exact e9) (by rw [e20, rd_wr, if_pos ⟨rfl, rfl⟩, e1910]) (by rw [e20, rd_wr, if_neg (by omega), e19, rd_wr, if_neg (by omega)]; exact e11) ?_ (fun i i0 i1 => ?_) ?_
        · rw [e20, rd_wr, if_neg (by omega), e19, rd_wr, if_pos ⟨rfl, rfl⟩, show (q + 1 - p).toNat = (q - p).toNat + 1 by omega, wdM, ← e12, if_pos (by omega), show p + ((q - p).toNat : Int) = q by omega]
        · by_cases c : i = q
          · rw [c]; exact y
          · exact hg i i0 (by omega)
        · rw [← hr]; exact (runE_y (c := fun q => isLt (tx q)) hq (isLt_iff.mpr y)).symm
/-- the token at p is in the model's memory; K is its kind -/
def TkA (M : MM) (tx : Int → Int) (L p K : Int) : Prop := rd M 67 9 = p ∧ rd M 67 10 = (if p < L then tEn tx L p else L) ∧ SW (rd M 67 11) (rd M 67 12) K ∧ inW (rd M 67 11) (rd M 67 12)
theorem goOn_46 {k n : Nat} {p K : Int} (hd : 2 ≤ d) (hb : Byt tx L) (hL : L ≤ 400) (p0 : 0 ≤ p) (p1 : p ≤ L) (hS : Sh M) (hT : TpM M tx L) (e9 : rd M 67 9 = p) (hK : p < L → kndOk tx L p K) (hK2 : ¬ p < L → K = 256) (h : ∀ M', Sh M' → Fr KTm M M' → TkA M' tx L p K → Q vU M') : X G Y_X12_goOn d k n 46 [vA 67] [] M Q := by
  refine B_X12_goOn_46 hd hS (fun M1 e1 s1 M2 e2 s2 => ?_)
  have F2 : Fr KTm M M2 := by rw [e2, e1]; exact (Fr.rf.wr ⟨rfl, by omega⟩).wr ⟨rfl, by omega⟩
  have T2 := hT.fr F2
  have r9 : rd M2 67 9 = p := by rw [e2, rd_wr, if_neg (by omega), e1, rd_wr, if_neg (by omega)]; exact e9
  have r10 : rd M2 67 10 = p := by rw [e2, rd_wr, if_neg (by omega), e1, rd_wr, if_pos ⟨rfl, rfl⟩]; exact e9
  have r12 : rd M2 67 12 = 0 := by rw [e2, rd_wr, if_pos ⟨rfl, rfl⟩]
  rw [r9, T2.2.1, T2.1]
  refine ⟨⟨by omega, by omega⟩, ⟨by omega, by omega⟩, fun pL => ?_, fun pL M26 e26 s26 => ?_⟩
  · have pl : p < L := by omega
    have hk := hK pl
    refine ⟨p0, by omega, hb.r p0 pl, fun nl M12 e12 s12 => ?_, fun yl M19 e19 s19 => ?_⟩
    · have nl' : ¬ isLt (tx p) = true := fun w => nl (isLt_iff.mp w)
      have nl2 : isLt (tx p) = false := by cases e : isLt (tx p) with | false => rfl | true => exact absurd e nl'
      have F12 : Fr KTm M M12 := by rw [e12]; exact F2.wr ⟨rfl, by omega⟩
      have T12 := hT.fr F12
      have q9 : rd M12 67 9 = p := by rw [e12, rd_wr, if_neg (by omega)]; exact r9
      have q10 : rd M12 67 10 = p := by rw [e12, rd_wr, if_neg (by omega)]; exact r10
      have q12 : rd M12 67 12 = 0 := by rw [e12, rd_wr, if_neg (by omega)]; exact r12
      have q11 : rd M12 67 11 = if ¬ (48 ≤ tx p ∧ tx p ≤ 57) then 3 else 2 := by rw [e12, rd_wr, if_pos ⟨rfl, rfl⟩]
      by_cases yd : 48 ≤ tx p ∧ tx p ≤ 57
      · rw [if_neg (fun w => w yd)] at q11
        have hdg := isDg_iff.mpr yd
        refine ⟨by rw [q11]; exact ⟨by decide, by decide⟩, fun _ => ?_, fun w => absurd (q11.symm.trans w) (by decide)⟩
        refine B_X12_goOn_149 hd s12 ⟨by rw [q11]; exact ⟨by decide, by decide⟩, by rw [q10]; exact ⟨by omega, by omega⟩, by rw [T12.2.1]; exact ⟨by omega, by omega⟩, fun _ => ?_, fun w => absurd (Or.inl (by rw [q11]; decide)) w⟩
        refine goOn_243 (M0 := M12) hd hb hL p0 T12 (fun M' s' F' g9 g10 g11 g12 => ?_) (L - p).toNat M12 p rfl (Int.le_refl _) p1 s12 Fr.rf q9 q10 q11 (by rw [q12, show (p - p).toNat = 0 by omega]; rfl) (fun i i0 i1 => by omega) rfl
        have eT : tEn tx L p = runE (fun q => isDg (tx q)) L p := by unfold tEn; rw [if_neg nl', if_pos hdg]; exact (runE_y pl hdg).symm
        have hE := tEn_ok (tx := tx) pl
        have hD := dgM_ok (tx := tx) (p := p) (tEn tx L p - p).toNat (fun i i0 i1 => tEn_dg nl' hdg (q := p + i) (L := L) (by omega) (by omega))
        rw [← eT] at g10 g12
        refine h M' s' (F12.tr F') ⟨g9, by rw [if_pos pl]; exact g10, ?_, by rw [g11, g12]; exact ⟨by decide, by decide, by omega, by omega⟩⟩
        rw [g11, g12]
        rcases hk with ⟨c1, _⟩ | ⟨_, _, c3⟩ | ⟨_, c2, _⟩
        · rw [nl2] at c1; cases c1
        · refine Or.inr (Or.inr (Or.inl ⟨rfl, ?_⟩))
          by_cases z : dgM tx p (tEn tx L p - p).toNat ≤ 1000
          · exact Or.inl ⟨hD.1, z, by rw [c3, hD.2.2.1 z]⟩
          · exact Or.inr ⟨by omega, by rw [c3, hD.2.2.2 (by omega)]; rfl⟩
        · rw [hdg] at c2; cases c2
      · rw [if_pos yd] at q11
        have nd : isDg (tx p) = false := by cases e : isDg (tx p) with | false => rfl | true => exact absurd (isDg_iff.mp e) yd
        refine ⟨by rw [q11]; exact ⟨by decide, by decide⟩, fun w => absurd q11 w, fun _ => ?_⟩
        rw [q9, T12.1]
        refine ⟨p0, by omega, hb.r p0 pl, fun M17 e17 s17 M18 e18 s18 => ?_⟩
        have F18 : Fr KTm M M18 := by rw [e18, e17]; exact (F12.wr ⟨rfl, by omega⟩).wr ⟨rfl, by omega⟩
        have T18 := hT.fr F18
        have z11 : rd M18 67 11 = 3 := by rw [e18, rd_wr, if_neg (by omega), e17, rd_wr, if_neg (by omega)]; exact q11
        have z9 : rd M18 67 9 = p := by rw [e18, rd_wr, if_neg (by omega), e17, rd_wr, if_neg (by omega)]; exact q9
        have z10 : rd M18 67 10 = p + 1 := by rw [e18, rd_wr, if_pos ⟨rfl, rfl⟩, e17, rd_wr, if_neg (by omega), q10]
        have z12 : rd M18 67 12 = tx p := by rw [e18, rd_wr, if_neg (by omega), e17, rd_wr, if_pos ⟨rfl, rfl⟩]
        have j11 : inR (rd M18 67 11) := by rw [z11]; exact ⟨by decide, by decide⟩
        have j10 : inR (rd M18 67 10) := by rw [z10]; exact ⟨by omega, by omega⟩
        have j8 : inR (rd M18 67 8) := by rw [T18.2.1]; exact ⟨by omega, by omega⟩
        have hbp := hb p p0 pl
        refine B_X12_goOn_149 hd s18 ⟨j11, j10, j8, fun _ => goOn_243x hd s18 (by rw [z11]; decide) j11 j10 j8 (h M18 s18 F18 ⟨z9, ?_, ?_, ?_⟩), fun w => absurd (Or.inl (by rw [z11]; decide)) w⟩
        · rw [if_pos pl, z10]; unfold tEn; rw [if_neg nl', if_neg (by rw [nd]; decide)]
        · rw [z11, z12]
          rcases hk with ⟨c1, _⟩ | ⟨_, c2, _⟩ | ⟨_, _, c3⟩
          · rw [nl2] at c1; cases c1
          · rw [nd] at c2; cases c2
          · exact Or.inr (Or.inr (Or.inr ⟨rfl, by omega, by omega, c3.symm⟩))
        · rw [z11, z12]; exact ⟨by decide, by decide, by omega, by omega⟩
    · have hlt := isLt_iff.mpr yl
      have F19 : Fr KTm M M19 := by rw [e19]; exact F2.wr ⟨rfl, by omega⟩
      have T19 := hT.fr F19
      have q11 : rd M19 67 11 = 1 := by rw [e19, rd_wr, if_pos ⟨rfl, rfl⟩]
      have q9 : rd M19 67 9 = p := by rw [e19, rd_wr, if_neg (by omega)]; exact r9
      have q10 : rd M19 67 10 = p := by rw [e19, rd_wr, if_neg (by omega)]; exact r10
      have q12 : rd M19 67 12 = 0 := by rw [e19, rd_wr, if_neg (by omega)]; exact r12
      refine ⟨by rw [q11]; exact ⟨by decide, by decide⟩, fun _ => ?_, fun w => absurd (q11.symm.trans w) (by decide)⟩
      refine goOn_149 (M0 := M19) hd hb hL p0 T19 (fun M' s' F' g9 g10 g11 g12 => ?_) (L - p).toNat M19 p rfl (Int.le_refl _) p1 s19 Fr.rf q9 q10 q11 (by rw [q12, show (p - p).toNat = 0 by omega]; rfl) (fun i i0 i1 => by omega) rfl
      have eT : tEn tx L p = runE (fun q => isLt (tx q)) L p := by unfold tEn; rw [if_pos hlt]; exact (runE_y pl hlt).symm
      have hE := tEn_ok (tx := tx) pl
      have hl : ∀ q : Int, p ≤ q → q < tEn tx L p → 97 ≤ tx q ∧ tx q ≤ 122 := fun q q0 q1 => by
        have hr := runF_ok (c := fun q => isLt (tx q)) (L := L) (L - p).toNat p
        exact isLt_iff.mp (hr.2.2 q q0 (by rw [eT] at q1; unfold runE at q1; exact q1)).1
      have hD := wdM_b (tx := tx) (p := p) (tEn tx L p - p).toNat (fun i i0 i1 => hl (p + i) (by omega) (by omega))
      rw [← eT] at g10 g12
      refine h M' s' (F19.tr F') ⟨g9, by rw [if_pos pl]; exact g10, ?_, by rw [g11, g12]; exact ⟨by decide, by decide, by omega, by omega⟩⟩
      rw [g11, g12]
      rcases hk with ⟨_, c2⟩ | ⟨c1, _⟩ | ⟨c1, _⟩
      · refine Or.inr (Or.inl ⟨rfl, ?_⟩)
        rcases c2 with ⟨q, q0, q1, e, w⟩ | ⟨e, w⟩
        · exact Or.inl ⟨q, q0, q1, e, (wdM_eq (by omega) hl q0 q1).mpr w⟩
        · exact Or.inr ⟨e, fun q q0 q1 y => w q q0 q1 ((wdM_eq (by omega) hl q0 q1).mp y)⟩
      · rw [hlt] at c1; cases c1
      · rw [hlt] at c1; cases c1
  · have F26 : Fr KTm M M26 := by rw [e26]; exact F2.wr ⟨rfl, by omega⟩
    have T26 := hT.fr F26
    have q11 : rd M26 67 11 = 0 := by rw [e26, rd_wr, if_pos ⟨rfl, rfl⟩]
    have q9 : rd M26 67 9 = p := by rw [e26, rd_wr, if_neg (by omega)]; exact r9
    have q10 : rd M26 67 10 = p := by rw [e26, rd_wr, if_neg (by omega)]; exact r10
    have q12 : rd M26 67 12 = 0 := by rw [e26, rd_wr, if_neg (by omega)]; exact r12
    have j11 : inR (rd M26 67 11) := by rw [q11]; exact ⟨by decide, by decide⟩
    have j10 : inR (rd M26 67 10) := by rw [q10]; exact ⟨by omega, by omega⟩
    have j8 : inR (rd M26 67 8) := by rw [T26.2.1]; exact ⟨by omega, by omega⟩
    refine ⟨j11, fun _ => ?_, fun w => absurd (q11.symm.trans w) (by decide)⟩
    refine B_X12_goOn_149 hd s26 ⟨j11, j10, j8, fun _ => goOn_243x hd s26 (by rw [q11]; decide) j11 j10 j8 (h M26 s26 F26 ⟨q9, ?_, ?_, ?_⟩), fun w => absurd (Or.inl (by rw [q11]; decide)) w⟩
    · rw [if_neg (by omega), q10]; exact pL
    · rw [q11]; exact Or.inl ⟨rfl, hK2 (by omega)⟩
    · rw [q11, q12]; exact ⟨by decide, by decide, by decide, by decide⟩
theorem goOn_8 {k n : Nat} {e K : Int} (hd : 2 ≤ d) (hb : Byt tx L) (hL : L ≤ 400) (e0 : 0 ≤ e) (hT : TpM M0 tx L) (hK : skp tx L e < L → kndOk tx L (skp tx L e) K) (hK2 : ¬ skp tx L e < L → K = 256) (h : ∀ M', Sh M' → Fr KTm M0 M' → TkA M' tx L (skp tx L e) K → Q vU M') : ∀ (m : Nat) (M : MM) (f : Int), (L - f).toNat = m → e ≤ f → f ≤ L → Sh M → Fr KTm M0 M → rd M 67 9 = f → skp tx L f = skp tx L e → X G Y_X12_goOn d k n 8 [vA 67] [] M Q
  | 0, M, f, hm, f0, f1, hS, hF, e9, hs => by
    have hT' := hT.fr hF
    have : f = L := by omega
    have es : skp tx L f = f := skp_end (by omega)
    refine B_X12_goOn_8 (by omega) hS ⟨by rw [e9]; exact ⟨by omega, by omega⟩, by rw [hT'.2.1]; exact ⟨by omega, by omega⟩, fun _ => ?_, fun w => by rw [e9, hT'.2.1] at w; omega⟩
    rw [← hs, es] at hK hK2 h
    exact goOn_46 hd hb hL (by omega) f1 hS hT' e9 hK hK2 (fun M' s' F' t' => h M' s' (hF.tr F') t')
  | m + 1, M, f, hm, f0, f1, hS, hF, e9, hs => by
    have hT' := hT.fr hF
    have fL : f < L := by omega
    refine B_X12_goOn_8 (by omega) hS ⟨by rw [e9]; exact ⟨by omega, by omega⟩, by rw [hT'.2.1]; exact ⟨by omega, by omega⟩, fun w => by rw [e9, hT'.2.1] at w; omega, fun _ => ?_⟩
    rw [e9, hT'.1]
    refine ⟨by omega, by omega, hb.r (by omega) fL, fun w => ?_, fun w M6 e6 s6 => ?_⟩
    · have es : skp tx L f = f := runE_n (fun y => w (of_decide_eq_true y.2))
      rw [← hs, es] at hK hK2 h
      exact goOn_46 hd hb hL (by omega) f1 hS hT' e9 hK hK2 (fun M' s' F' t' => h M' s' (hF.tr F') t')
    · refine goOn_8 hd hb hL e0 hT hK hK2 h m M6 (f + 1) (by omega) (by omega) (by omega) s6 (by rw [e6]; exact hF.wr ⟨rfl, by omega⟩) (by rw [e6, rd_wr, if_pos ⟨rfl, rfl⟩]) ?_
      rw [← hs]
      exact (runE_y fL (decide_eq_true w)).symm
theorem T_X12_goOn {e K : Int} (hd : 2 ≤ d) (hS : Sh M) (hb : Byt tx L) (hL : L ≤ 400) (hT : TpM M tx L) (e10 : rd M 67 10 = e) (e0 : 0 ≤ e) (e1 : e ≤ L) (hK : skp tx L e < L → kndOk tx L (skp tx L e) K) (hK2 : ¬ skp tx L e < L → K = 256) (h : ∀ M', Sh M' → Fr KTm M M' → TkA M' tx L (skp tx L e) K → Q vU M') : C G Y_X12_goOn d 0 0 [vA 67] M Q := by
  refine C_X12_goOn (B_X12_goOn_0 (by omega) hS (fun M1 e1' s1 => ?_))
  have F1 : Fr KTm M M1 := by rw [e1']; exact Fr.rf.wr ⟨rfl, by omega⟩
  exact goOn_8 (M0 := M) hd hb hL e0 hT hK hK2 h (L - e).toNat M1 e rfl (Int.le_refl _) e1 s1 F1 (by rw [e1', rd_wr, if_pos ⟨rfl, rfl⟩]; exact e10) rfl
end TM
