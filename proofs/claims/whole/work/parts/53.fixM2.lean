/-! ===== figures of a number; the rows weighed ===== -/
def dgsF (f : Int → Int) : Nat → Int
  | 0 => 0
  | m + 1 => dgsF f m * 10 + digF f (111 - m)
def lmb (N : Int) (i : Int) : Int := N / Bp i.toNat % 100000000
theorem vl_lmb {N : Int} (h0 : 0 ≤ N) : ∀ n : Nat, vl (lmb N) 0 n = N % Bp n
  | 0 => by rw [vl, Bp, Int.pow_zero]; omega
  | n + 1 => by
    have ih := vl_lmb h0 n
    have hb := Bp_pos n
    rw [vl, ih, Int.zero_add]
    have e1 : lmb N (n : Int) = N / Bp n % 100000000 := by unfold lmb; rw [show ((n : Int)).toNat = n by omega]
    rw [e1, Bp_s]
    have h1 := Int.emod_add_mul_ediv N (Bp n)
    have h2 := Int.emod_add_mul_ediv (N / Bp n) 100000000
    have h3 := Int.emod_nonneg N (show Bp n ≠ 0 by omega)
    have h4 := Int.emod_lt_of_pos N hb
    have h5 : 0 ≤ N / Bp n % 100000000 ∧ N / Bp n % 100000000 < 100000000 := by omega
    generalize hq : N / Bp n = q at *
    generalize hr : N % Bp n = x at *
    have m1 : 0 ≤ q % 100000000 * Bp n := Int.mul_nonneg h5.1 (by omega)
    have m2 : q % 100000000 * Bp n ≤ 99999999 * Bp n := Int.mul_le_mul_of_nonneg_right (by omega) (by omega)
    have eN : N = (x + q % 100000000 * Bp n) + Bp n * 100000000 * (q / 100000000) := by rw [← h1]; grind
    rw [eN, Int.add_mul_emod_self_left]
    exact (Int.emod_eq_of_lt (by omega) (by omega)).symm
theorem limbs {f : Int → Int} {N : Int} (hn : nrm f 0 14) (hv : vl f 0 14 = N) : ∀ i : Int, 0 ≤ i → i < 14 → f i = lmb N i := by
  have hl := vl_lt hn
  intro i i0 i1
  have h2 : nrm (lmb N) 0 14 := fun j j0 j1 => by unfold lmb; omega
  have h3 := vl_inj hn h2 (by rw [vl_lmb (by omega) 14, Int.emod_eq_of_lt (by omega) (by omega), hv]) i i0 i1
  rw [Int.zero_add] at h3
  exact h3
theorem digF_congr {f g : Int → Int} {p : Int} (h : f (p / 8) = g (p / 8)) : digF f p = digF g p := by unfold digF; rw [h]
/-- what stands from a place on -/
def dgN (N frm : Int) : Int := dgsF (lmb N) (112 - frm).toNat
theorem dgsF_congr {f g : Int → Int} (h : ∀ i : Int, 0 ≤ i → i < 14 → f i = g i) : ∀ m : Nat, m ≤ 112 → dgsF f m = dgsF g m
  | 0, _ => rfl
  | m + 1, hm => by rw [dgsF, dgsF, dgsF_congr h m (by omega), digF_congr (h _ (by omega) (by omega))]
theorem digF_ok {f : Int → Int} (hn : nrm f 0 14) {p : Int} (hp : 0 ≤ p ∧ p < 112) : 0 ≤ digF f p ∧ digF f p ≤ 9 := by
  have hA := hn (p / 8) (by omega) (by omega)
  rw [Int.zero_add] at hA
  have key : ∀ (m : Nat) (x : Int), 0 ≤ x → 0 ≤ itdiv x m := by
    intro m
    induction m with
    | zero => intro x h; exact h
    | succ m ih => intro x h; exact ih _ (by rw [Int.tdiv_eq_ediv_of_nonneg h]; omega)
  have := key (p % 8).toNat _ hA.1
  unfold digF
  rw [Int.tmod_eq_emod_of_nonneg this]; omega
/-- a row's scenes -/
def rowf (t : List Int) : Int → Int := fun i => t.getD i.toNat 0
def wR (r : Int → Int) (sm : Int → LSm) (t : List Int) : Int := rowV r sm 8 (rowf t) t.length (r 30) (r 33)
def stpR (w : List Int → Int) (acc : Option (List Int)) (t : List Int) : Option (List Int) := match acc with
  | none => some t
  | some b => if w b < w t then some t else some b
/-- what the model keeps of the rows that were weighed -/
def FA (M : MM) (w : List Int → Int) (acc : Option (List Int)) (c : Int) : Prop := rd M 67 44 = c ∧ 0 ≤ c ∧ match acc with
  | none => c = 0
  | some b => 1 ≤ c ∧ rd M 67 43 = b.length ∧ (∀ i : Int, 0 ≤ i → i < b.length → rd M 89 i = rowf b i) ∧ nrm (rd M 85) 0 14 ∧ vl (rd M 85) 0 14 = w b
def KF (a j : Int) : Prop := KR a j ∨ a = 85 ∨ a = 89 ∨ (a = 67 ∧ (j = 43 ∨ j = 44))
theorem RS.p0 {r : Int → Int} (h : RS r) : 0 ≤ r 30 ∧ r 30 < 6 := by
  have p := h.2.2.2.1 0 (by decide) (by decide)
  rw [show (30 : Int) + 3 * 0 = 30 from rfl] at p
  omega
theorem RS.p1 {r : Int → Int} (h : RS r) : 0 ≤ r 33 ∧ r 33 < 6 := by
  have p := h.2.2.2.1 1 (by decide) (by decide)
  rw [show (30 : Int) + 3 * 1 = 33 from rfl] at p
  omega
theorem rowV_ok {r : Int → Int} {sm : Int → LSm} {g n z o : Int} {f : Int → Int} (hV : RS r) (hg : 0 ≤ g) (hz : 0 ≤ z ∧ z < 6) (ho : 0 ≤ o ∧ o < 6) : 0 ≤ rowV r sm g f n z o ∧ rowV r sm g f n z o ≤ bnd 0 := VV_ok cF_R.1 hV hg 5 0 (-1) z o (by decide) (by decide) (by decide +kernel) hz.1 hz.2 ho.1 ho.2
section FX
variable {G : GG} {d : Nat} {M : MM} {Q : PV → MM → Prop} {sm : Int → LSm}
theorem T_X12_digits {a frm : Int} (ha : Ar M a 0 14) (hn : nrm (rd M a) 0 14) (hf : 0 ≤ frm ∧ frm ≤ 112) (hd : 2 ≤ d) (h : Q (vL (dgN (vl (rd M a) 0 14) frm)) M) : C G Y_X12_digits d 0 0 [vA a, vI frm] M Q := by
  refine C_X12_digits (B_X12_digits_0 (by omega) ?_)
  have key : ∀ m k : Nat, (k : Int) + m = 112 - frm → X G Y_X12_digits d 0 0 6 [vA a, vI frm, vL (dgsF (rd M a) k), vU, vI (111 - (k : Int))] [] M Q := by
    intro m
    induction m with
    | zero =>
      intro k hk
      refine B_X12_digits_6 hd ⟨⟨by omega, by omega⟩, ⟨by omega, by omega⟩, fun _ => ?_, fun q => by omega⟩
      unfold dgN at h
      rw [show (112 - frm).toNat = k by omega, ← dgsF_congr (limbs hn rfl) k (by omega)] at h
      exact h
    | succ m ih =>
      intro k hk
      have hdg := digF_ok hn (p := 111 - (k : Int)) ⟨by omega, by omega⟩
      refine B_X12_digits_6 hd ⟨⟨by omega, by omega⟩, ⟨by omega, by omega⟩, fun q => by omega, fun _ => ⟨ha, hn, ⟨by omega, by omega⟩, ⟨by omega, by omega⟩, fun v7 e7 => ?_⟩⟩
      have := ih (k + 1) (by omega)
      rw [dgsF, ← e7, show (111 : Int) - ((k + 1 : Nat) : Int) = 111 - (k : Int) + (-1) by omega] at this
      exact this
  exact key (112 - frm).toNat 0 (by omega)
theorem T_X12_weighRow {t : List Int} {acc : Option (List Int)} {c : Int} (hS : Sh M) (hM : MOK M sm) (h39 : rd M 67 39 = -1) (hl : rd M 67 41 = t.length) (ht : ∀ i : Int, 0 ≤ i → i < t.length → rd M 88 i = rowf t i) (hR : RowOk (rowf t) t.length) (hn : t.length ≤ 5) (hpl : plyd (rd M 69) (rowf t) t.length t.length) (hA : FA M (wR (rd M 69) sm) acc c) (hc : c < 100000) (hd : 10 ≤ d)
    (h : ∀ M', Fr KF M M' → Sh M' → FA M' (wR (rd M 69) sm) (stpR (wR (rd M 69) sm) acc t) (c + 1) → Q vU M') : C G Y_X12_weighRow d 0 0 [vA 67] M Q := by
  have hz := hM.1.p0
  have ho := hM.1.p1
  refine C_X12_weighRow (B_X12_weighRow_0 (by omega) hS fun M1 e1 hS1 => ?_)
  have f1 : Fr KF M M1 := by rw [e1]; exact Fr.rf.wr (Or.inr (Or.inr (Or.inr ⟨rfl, Or.inr rfl⟩)))
  have x1 : ∀ a j, ¬ (a = 67 ∧ j = 44) → rd M1 a j = rd M a j := fun a j q => by rw [e1, rd_wr, if_neg q]
  have e44 : rd M1 67 44 = c + 1 := by rw [e1, rd_wr, if_pos ⟨rfl, rfl⟩, hA.1]
  have e69 : rd M1 69 = rd M 69 := funext fun j => x1 _ _ (by omega)
  have ht1 : ∀ M', (∀ j, rd M' 88 j = rd M 88 j) → (Sh M') → ∀ i : Int, 0 ≤ i → i < t.length → okA M' 88 20 (0 + i) ∧ rd M' 88 (0 + i) = rowf t i := fun M' e hS' i i0 i1 => ⟨sA_88 hS' (by omega) (by omega), by rw [e, Int.zero_add]; exact ht i i0 i1⟩
  rw [x1 _ _ (by omega), hl]
  refine T_X12_chooseRow (f := rowf t) hS1 (by rw [e69]; exact hM.1) (by decide) (ht1 M1 (fun j => x1 _ _ (by omega)) hS1) hR ⟨by omega, by omega⟩ (by omega) (fun M2 L f2 hS2 hpL hch => ⟨hS2, ?_⟩)
  have x2 : ∀ a j, a ≠ 82 → rd M2 a j = rd M1 a j := fun a j q => f2.2.2 _ _ q
  have e69' : rd M2 69 = rd M 69 := funext fun j => (x2 _ _ (by decide)).trans (x1 _ _ (by omega))
  rw [e69] at hpL
  have eL : L = t.length := by
    have h1 := hpL.1
    by_cases q : L = t.length
    · exact q
    · exact absurd (hpl.2.1 L (by omega)) (hpL.2.2 (by omega))
  subst eL
  rw [x2 _ _ (by decide), x1 _ _ (by omega), hl]
  have hM2 : MOK M2 sm := by unfold MOK; rw [e69']; exact hM
  refine T_X12_reckonRow (f := rowf t) (sm := sm) hS2 hM2 (by rw [x2 _ _ (by decide), x1 _ _ (by omega)]; exact h39) (Or.inl rfl) (ht1 M2 (fun j => (x2 _ _ (by decide)).trans (x1 _ _ (by omega))) hS2) hR ⟨by omega, by omega⟩ (by rw [e69']; exact hpl) hch (by omega) (fun M3 f3 hS3 hv3 => ⟨hS3, ?_⟩)
  have x3 : ∀ a j, ¬ KR a j → rd M3 a j = rd M2 a j := f3.2.2
  have e69'' : rd M3 69 = rd M 69 := funext fun j => (x3 _ _ (by unfold KR KE KA; omega)).trans (by rw [e69'])
  have f3' : Fr KF M M3 := (f1.tr (f2.mono (fun a j q => Or.inl (Or.inr (Or.inr q))))).tr (f3.mono (fun a j q => Or.inl q))
  have y44 : rd M3 67 44 = c + 1 := by rw [x3 _ _ (by unfold KR KE KA; omega), x2 _ _ (by decide), e44]
  have y43 : rd M3 67 43 = rd M 67 43 := by rw [x3 _ _ (by unfold KR KE KA; omega), x2 _ _ (by decide), x1 _ _ (by omega)]
  have y41 : rd M3 67 41 = t.length := by rw [x3 _ _ (by unfold KR KE KA; omega), x2 _ _ (by decide), x1 _ _ (by omega), hl]
  have y85 : rd M3 85 = rd M 85 := funext fun j => by rw [x3 _ _ (by unfold KR KE KA; omega), x2 _ _ (by decide), x1 _ _ (by omega)]
  have y89 : ∀ j, rd M3 89 j = rd M 89 j := fun j => by rw [x3 _ _ (by unfold KR KE KA; omega), x2 _ _ (by decide), x1 _ _ (by omega)]
  have y88 : ∀ j, rd M3 88 j = rd M 88 j := fun j => by rw [x3 _ _ (by unfold KR KE KA; omega), x2 _ _ (by decide), x1 _ _ (by omega)]
  have hT := hv3 (rd M 69 30) (rd M 69 33) hz.1 hz.2 ho.1 ho.2
  rw [e69'] at hT
  have hw : rowV (rd M 69) sm 8 (rowf t) t.length (rd M 69 30) (rd M 69 33) = wR (rd M 69) sm t := rfl
  rw [hw] at hT
  have est : (14 * ((((((((0 : Int) * 6) + (-1 : Int)) + 1) * 6) + (rd M 69 30)) * 6) + (rd M 69 33))) = 14 * sta 0 (-1) (rd M 69 30) (rd M 69 33) := rfl
  have hst : 0 ≤ sta 0 (-1) (rd M 69 30) (rd M 69 33) ∧ sta 0 (-1) (rd M 69 30) (rd M 69 33) < 6912 := by unfold sta; omega
  -- a new best row
  have take : stpR (wR (rd M 69) sm) acc t = some t → X G Y_X12_weighRow d 0 0 65 [vA 67, vI 0] [] M3 Q := by
    intro hst2
    have k96 : ∀ m k : Nat, k + m = t.length → ∀ Mk, Fr KF M Mk → Sh Mk → rd Mk 67 41 = t.length → rd Mk 67 44 = c + 1 → (∀ j, rd Mk 88 j = rd M 88 j) → nrm (rd Mk 85) 0 14 → vl (rd Mk 85) 0 14 = wR (rd M 69) sm t → (∀ i : Int, 0 ≤ i → i < k → rd Mk 89 i = rowf t i) → X G Y_X12_weighRow d 0 0 96 [vA 67, vI k] [] Mk Q := by
      intro m
      induction m with
      | zero =>
        intro k hk Mk fk hSk k41 k44 k88 kn kv k89
        refine B_X12_weighRow_96 (by omega) hSk ?_
        rw [k41]
        refine ⟨⟨by omega, by omega⟩, ⟨by omega, by omega⟩, fun _ M4 e4 hS4 => ?_, fun q => by omega⟩
        refine h M4 (by rw [e4]; exact fk.wr (Or.inr (Or.inr (Or.inr ⟨rfl, Or.inl rfl⟩)))) hS4 ?_
        rw [hst2]
        have z4 : ∀ a j, ¬ (a = 67 ∧ j = 43) → rd M4 a j = rd Mk a j := fun a j q => by rw [e4, rd_wr, if_neg q]
        have z85 : rd M4 85 = rd Mk 85 := funext fun j => z4 _ _ (by omega)
        refine ⟨by rw [z4 _ _ (by omega), k44], by have := hA.2.1; omega, by have := hA.2.1; omega, by rw [e4, rd_wr, if_pos ⟨rfl, rfl⟩], fun i i0 i1 => by rw [z4 _ _ (by omega)]; exact k89 i i0 (by omega), by rw [z85]; exact kn, by rw [z85]; exact kv⟩
      | succ m ih =>
        intro k hk Mk fk hSk k41 k44 k88 kn kv k89
        refine B_X12_weighRow_96 (by omega) hSk ?_
        rw [k41]
        refine ⟨⟨by omega, by omega⟩, ⟨by omega, by omega⟩, fun q => by omega, fun _ => ⟨by omega, by omega, fun M4 e4 hS4 => ?_⟩⟩
        have z4 : ∀ a j, a ≠ 89 → rd M4 a j = rd Mk a j := fun a j q => by rw [e4, rd_wr, if_neg (fun w => q w.1)]
        have z85 : rd M4 85 = rd Mk 85 := funext fun j => z4 _ _ (by decide)
        refine ih (k + 1) (by omega) M4 (by rw [e4]; exact fk.wr (Or.inr (Or.inr (Or.inl rfl)))) hS4 (by rw [z4 _ _ (by decide)]; exact k41) (by rw [z4 _ _ (by decide)]; exact k44) (fun j => by rw [z4 _ _ (by decide)]; exact k88 j) (by rw [z85]; exact kn) (by rw [z85]; exact kv) (fun i i0 i1 => ?_)
        rw [e4, rd_wr]
        by_cases q : i = k
        · rw [if_pos ⟨rfl, q⟩, k88, q]; exact ht k (by omega) (by omega)
        · rw [if_neg (fun w => q w.2)]; exact k89 i i0 (by omega)
    have k65 : ∀ m k : Nat, k + m = 14 → ∀ Mk, Fr KF M Mk → Sh Mk → rd Mk 67 41 = t.length → rd Mk 67 44 = c + 1 → (∀ j, rd Mk 88 j = rd M 88 j) → (∀ j, rd Mk 69 j = rd M 69 j) → (∀ j, rd Mk 81 j = rd M3 81 j) → (∀ i : Int, 0 ≤ i → i < k → rd Mk 85 i = rd M3 81 (14 * sta 0 (-1) (rd M 69 30) (rd M 69 33) + i)) → X G Y_X12_weighRow d 0 0 65 [vA 67, vI k] [] Mk Q := by
      intro m
      induction m with
      | zero =>
        intro k hk Mk fk hSk k41 k44 k88 k69 k81 k85
        refine B_X12_weighRow_65 (by omega) hSk ⟨⟨by omega, by omega⟩, fun _ => ?_, fun q => by omega⟩
        refine k96 t.length 0 (by omega) Mk fk hSk k41 k44 k88 (fun i i0 i1 => ?_) ?_ (fun i i0 i1 => by omega)
        · rw [Int.zero_add, k85 i i0 (by omega)]; exact hT.1 i i0 i1
        · rw [vl_congr (g := rd M3 81) (b := 14 * sta 0 (-1) (rd M 69 30) (rd M 69 33)) (fun i i0 i1 => by rw [Int.zero_add]; exact k85 i i0 (by omega))]; exact hT.2
      | succ m ih =>
        intro k hk Mk fk hSk k41 k44 k88 k69 k81 k85
        refine B_X12_weighRow_65 (by omega) hSk ?_
        rw [k69, k69, est]
        refine ⟨⟨by omega, by omega⟩, fun q => by omega, fun _ => ⟨by omega, by omega, by omega, by omega, fun M4 e4 hS4 => ?_⟩⟩
        have z4 : ∀ a j, a ≠ 85 → rd M4 a j = rd Mk a j := fun a j q => by rw [e4, rd_wr, if_neg (fun w => q w.1)]
        refine ih (k + 1) (by omega) M4 (by rw [e4]; exact fk.wr (Or.inr (Or.inl rfl))) hS4 (by rw [z4 _ _ (by decide)]; exact k41) (by rw [z4 _ _ (by decide)]; exact k44) (fun j => by rw [z4 _ _ (by decide)]; exact k88 j) (fun j => by rw [z4 _ _ (by decide)]; exact k69 j) (fun j => by rw [z4 _ _ (by decide)]; exact k81 j) (fun i i0 i1 => ?_)
        rw [e4, rd_wr]
        by_cases q : i = k
        · rw [if_pos ⟨rfl, q⟩, k81, q]
        · rw [if_neg (fun w => q w.2)]; exact k85 i i0 (by omega)
    exact k65 14 0 rfl M3 f3' hS3 y41 y44 y88 (fun j => by rw [e69'']) (fun j => rfl) (fun i i0 i1 => by omega)
  rw [e69'', y44, est]
  refine ⟨⟨by have := hA.2.1; omega, by omega⟩, fun q => take ?_, fun q => ?_⟩
  · obtain ⟨a1, a2, a3⟩ := hA
    cases acc with
    | none => rfl
    | some b => dsimp only at a3; omega
  · obtain ⟨a1, a2, a3⟩ := hA
    cases acc with
    | none => dsimp only at a3; omega
    | some b =>
      dsimp only at a3
      obtain ⟨b1, b2, b3, b4, b5⟩ := a3
      rw [y85, hT.2, b5]
      refine ⟨hS3.Ar 81 96768 rfl ⟨by decide, by decide, by omega, by decide⟩ (by omega), hS3.Ar 85 14 rfl (by decide) (by decide), hT.1, b4, cmpI_R, fun q2 => ?_, fun q2 => take ?_⟩
      · have hnl : ¬ wR (rd M 69) sm b < wR (rd M 69) sm t := fun w => by have := cmpI_pos.mpr w; omega
        refine h M3 f3' hS3 ?_
        have es : stpR (wR (rd M 69) sm) (some b) t = some b := by simp only [stpR]; rw [if_neg hnl]
        rw [es]
        exact ⟨y44, by omega, by omega, by rw [y43]; exact b2, fun i i0 i1 => by rw [y89]; exact b3 i i0 i1, by rw [y85]; exact b4, by rw [y85]; exact b5⟩
      · simp only [stpR]; rw [if_pos (cmpI_pos.mp q2)]
end FX
