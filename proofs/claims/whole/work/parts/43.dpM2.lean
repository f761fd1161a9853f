def gl (goal on : Int) : Int := if on = -1 then goal else 9 + on
section DM
variable {G : GG} {d : Nat} {M : MM} {Q : PV → MM → Prop} {sm : Int → LSm}
theorem own_eq {so z o : Int} (h : so = 0 ∨ so = 1) : (if so ≠ 0 then o else z) = (if so = 0 then z else o) := by rcases h with rfl | rfl <;> rfl
theorem T_X12_chance {so s p l z o : Int} (hS : Sh M) (hM : MOK M sm) (hso : so = 0 ∨ so = 1) (hr : rngS s p l z o) (hd : 6 ≤ d) (h : ∀ v M', (Fr KA M M' ∧ v = chn (rd M 69) sm so s p l z o) → Sh M' → Q (vI v) M') : C G Y_X12_chance d 0 0 [vA 67, vI so, vI s, vI p, vI l, vI z, vI o] M Q := by
  obtain ⟨hs, hp, hl, hz, ho⟩ := hr
  refine C_X12_chance (B_X12_chance_0 (sm := sm) hd hS ?_)
  rw [own_eq hso]
  exact ⟨⟨by omega, by omega⟩, hM.1, hp.1, hp.2, hM, Or.inl rfl, fcts_ok hM.1 hso hs hp hl hz ho, fun v M' hv hS' => h v M' hv hS'⟩
/-- what one sort brings -/
def ctr (r : Int → Int) (sm : Int → LSm) (on so s p l z o : Int) : Int := (if so = 0 then z else o) * ((((if on = -1 ∨ on = so then r (31 + 3 * so) else 0) * r 40) * r (10 + 3 * s) + (if on = -1 ∧ 0 < (if so = 0 then z else o) then prc r sm so s p l z o else 0)) + (if r (12 + 3 * s) = 1 then (if on = -1 ∨ on = so then r (31 + 3 * so) else 0) * r 41 else 0))
theorem ctr_brg {r : Int → Int} {on s p l z o : Int} (hz : 0 ≤ z) (ho : 0 ≤ o) (hon : on = -1 ∨ on = 0 ∨ on = 1) : ctr r sm on 0 s p l z o + ctr r sm on 1 s p l z o = brg r sm (gl 8 on) s p l z o := by
  have e0 : (31 : Int) + 3 * 0 = 31 := rfl
  have e1 : (31 : Int) + 3 * 1 = 34 := rfl
  unfold ctr brg prcs
  rw [e0, e1]
  generalize prc r sm 0 s p l z o = a
  generalize prc r sm 1 s p l z o = b
  rcases hon with rfl | rfl | rfl
  · have hz' : (if 0 < z then z * a else 0) = z * (if 0 < z then a else 0) := by split <;> simp
    have ho' : (if 0 < o then o * b else 0) = o * (if 0 < o then b else 0) := by split <;> simp
    rw [hz', ho']
    simp [gl]
    by_cases q : r (12 + 3 * s) = 1 <;> simp [q] <;> grind
  · simp [gl]
    by_cases q : r (12 + 3 * s) = 1 <;> simp [q] <;> grind
  · simp [gl]
    by_cases q : r (12 + 3 * s) = 1 <;> simp [q] <;> grind
theorem L_brings {s p l z o on x8 so v7 g : Int} (hS : Sh M) (hM : MOK M sm) (hr : rngS s p l z o) (hon : on = -1 ∨ on = 0 ∨ on = 1) (h39 : rd M 67 39 = on) (hso : so = 0 ∨ so = 1) (h7 : v7 = if rd M 69 (12 + 3 * s) = 1 then 1 else 0) (hd : 6 ≤ d)
    (h : ∀ M', Fr KA M M' → Sh M' → X G Y_X12_brings d 0 0 78 [vA 67, vI g, vI s, vI p, vI l, vI z, vI o, vI v7, vL (x8 + ctr (rd M 69) sm on so s p l z o), vU, vI (so + 1), vU, vU, vU] [] M' Q) :
    X G Y_X12_brings d 0 0 78 [vA 67, vI g, vI s, vI p, vI l, vI z, vI o, vI v7, vL x8, vU, vI so, vU, vU, vU] [] M Q := by
  obtain ⟨hs, hp, hl, hz, ho⟩ := hr
  have hV := hM.1
  have hsc := hV.2.2.1 s hs.1 hs.2
  have hw := hV.2.2.2.1 so (by omega) (by omega)
  have t40 : 0 ≤ rd M 69 40 ∧ rd M 69 40 ≤ 9 := ⟨hV.2.2.2.2.1, hV.2.2.2.2.2.1⟩
  have t41 : 0 ≤ rd M 69 41 ∧ rd M 69 41 ≤ 99 := ⟨hV.2.2.2.2.2.2.1, hV.2.2.2.2.2.2.2.1⟩
  have b7 : inR v7 := by rw [h7]; split <;> exact ⟨by decide, by decide⟩
  have e7 : ∀ x : Int, (if v7 = 0 then 0 else x) = if rd M 69 (12 + 3 * s) = 1 then x else 0 := by
    intro x; rw [h7]; split <;> simp
  generalize hown : (if so = 0 then z else o) = ow at *
  have how : 0 ≤ ow ∧ ow < 6 := by rw [← hown]; split <;> omega
  have hctr : ∀ w pr : Int, w = (if on = -1 ∨ on = so then rd M 69 (31 + 3 * so) else 0) → pr = (if on = -1 ∧ 0 < ow then prc (rd M 69) sm so s p l z o else 0) → ow * ((((w * rd M 69 40) * rd M 69 (10 + 3 * s)) + pr) + (if rd M 69 (12 + 3 * s) = 1 then w * rd M 69 41 else 0)) = ctr (rd M 69) sm on so s p l z o := by
    intro w pr ew ep; unfold ctr; rw [hown, ew, ep]
  have hR : ∀ w pr : Int, 0 ≤ w → w ≤ 9 → 0 ≤ pr → pr ≤ 99 → inR ((((w * rd M 69 40) * rd M 69 (10 + 3 * s)) + pr) + (if rd M 69 (12 + 3 * s) = 1 then w * rd M 69 41 else 0)) := by
    intro w pr w0 w1 p0 p1
    have m1 := mul_le w0 w1 t40.1 t40.2
    have m2 := mul_le m1.1 m1.2 hsc.1 hsc.2.1
    have m3 := mul_le w0 w1 t41.1 t41.2
    constructor
    · split <;> omega
    · split <;> omega
  have e31 : (30 : Int) + 3 * so + 1 = 31 + 3 * so := by omega
  have ask : ow = (if so = 0 then z else o) → FR (fcts so s l (z + o) ow (mnO (rd M 69) p) (pop p)) := fun e => by rw [e]; exact fcts_ok hV hso hs hp hl hz ho
  -- the price is not asked for
  have k177 : ∀ w : Int, w = (if on = -1 ∨ on = so then rd M 69 (31 + 3 * so) else 0) → ¬ (on = -1 ∧ 0 < ow) → X G Y_X12_brings d 0 0 177 [vA 67, vI g, vI s, vI p, vI l, vI z, vI o, vI v7, vL x8, vU, vI so, vI ow, vI w, vU] [] M Q := by
    intro w ew hn
    have w0 : 0 ≤ w ∧ w ≤ 9 := by rw [ew]; split <;> omega
    refine B_X12_brings_177 (by omega) hS ?_
    rw [e7, Int.add_zero (10 + 3 * s)]
    refine ⟨⟨by omega, by omega⟩, by omega, by omega, b7, hR w 0 w0.1 w0.2 (by decide) (by decide), fun v ev => ?_⟩
    rw [ev, hctr w 0 ew (by rw [if_neg hn])]
    exact h M Fr.rf hS
  -- the price, once it is told
  have kp : ∀ (w : Int) (v : Int) (M1 : MM), w = (if on = -1 ∨ on = so then rd M 69 (31 + 3 * so) else 0) → on = -1 ∧ 0 < ow → (Fr KA M M1 ∧ v = askV (rd M 69) sm (fcts so s l (z + o) ow (mnO (rd M 69) p) (pop p)) 1) → Sh M1 →
      0 ≤ ((10 + (3 * s)) + (0 : Int)) ∧ ((10 + (3 * s)) + (0 : Int)) < 5460 ∧ inR v7 ∧ inR ((((w * (rd M1 69 40)) * (rd M1 69 ((10 + (3 * s)) + (0 : Int)))) + v) + (if v7 = 0 then 0 else (w * (rd M1 69 41)))) ∧ ∀ v54, v54 = x8 + (ow * ((((w * (rd M1 69 40)) * (rd M1 69 ((10 + (3 * s)) + (0 : Int)))) + v) + (if v7 = 0 then 0 else (w * (rd M1 69 41))))) → X G Y_X12_brings d 0 0 78 [vA 67, vI g, vI s, vI p, vI l, vI z, vI o, vI v7, vL v54, vU, vI (so + 1), vU, vU, vU] [] M1 Q := by
    intro w v M1 ew hy hv hS1
    have r69 : ∀ j, rd M1 69 j = rd M 69 j := fun j => hv.1.2.2 _ _ (by unfold KA; omega)
    have w0 : 0 ≤ w ∧ w ≤ 9 := by rw [ew]; split <;> omega
    have ev : v = prc (rd M 69) sm so s p l z o := by rw [hv.2]; unfold prc; rw [hown]
    have hpr := @prc_ok (rd M 69) sm so s p l z o
    rw [e7, Int.add_zero (10 + 3 * s), r69, r69, r69]
    refine ⟨by omega, by omega, b7, hR w v w0.1 w0.2 (by omega) (by omega), fun v54 e54 => ?_⟩
    rw [e54, hctr w v ew (by rw [if_pos hy, ev])]
    exact h M1 hv.1 hS1
  refine B_X12_brings_78 (sm := sm) hd hS ⟨⟨by omega, by omega⟩, fun q => by omega, fun _ v6 e6 => ?_⟩
  have e6' : v6 = ow := by rw [e6, own_eq hso, hown]
  subst e6'
  rw [h39]
  refine ⟨⟨by omega, by omega⟩, fun q => ?_, fun q => ⟨⟨by omega, by omega⟩, hV, fun q2 => k177 0 (by rw [if_neg q]) (by omega), fun q2 => by omega⟩⟩
  refine B_X12_brings_115 (sm := sm) hd hS ⟨by omega, by omega, fun v3 e3 => ?_⟩
  rw [e31] at e3
  rw [h39]
  refine ⟨⟨by omega, by omega⟩, ⟨by omega, by omega⟩, hV, fun q2 => k177 v3 (by rw [if_pos q]; exact e3) (by omega), fun q2 => ⟨hp.1, hp.2, hM, Or.inr rfl, ask hown.symm, fun v M1 hv hS1 => kp v3 v M1 (by rw [if_pos q]; exact e3) (by omega) hv hS1⟩⟩
theorem T_X12_brings {goal s p l z o : Int} (hS : Sh M) (hM : MOK M sm) (hr : rngS s p l z o) (hg : 0 ≤ goal ∧ goal ≤ 8 ∧ -1 ≤ rd M 67 39 ∧ rd M 67 39 ≤ 1 ∧ (rd M 67 39 ≠ -1 → goal = 8)) (hd : 6 ≤ d)
    (h : ∀ v M', (Fr KA M M' ∧ v = brg (rd M 69) sm (gl goal (rd M 67 39)) s p l z o) → Sh M' → Q (vL v) M') : C G Y_X12_brings d 0 0 [vA 67, vI goal, vI s, vI p, vI l, vI z, vI o] M Q := by
  have hr' := hr
  obtain ⟨hs, hp, hl, hz, ho⟩ := hr'
  have hsc := hM.1.2.2.1 s hs.1 hs.2
  have e12 : (10 : Int) + 3 * s + 2 = 12 + 3 * s := by omega
  generalize hon : rd M 67 39 = on at *
  refine C_X12_brings (B_X12_brings_0 (by omega) hS ?_)
  rw [e12]
  refine ⟨by omega, by omega, ⟨by omega, by omega⟩, fun v8 e8 => ⟨⟨by omega, by omega⟩, fun q => ?_, fun q => ⟨fun q2 => ⟨by rw [e8]; split <;> exact ⟨by decide, by decide⟩, fun q3 => ?_, fun q3 => ⟨fun q4 => ⟨⟨by omega, by omega⟩, ?_⟩, fun q4 => ?_⟩⟩, fun q2 => ⟨⟨by omega, by omega⟩, ?_⟩⟩⟩⟩
  · have eg : goal = 8 := by omega
    have hon3 : on = -1 ∨ on = 0 ∨ on = 1 := by omega
    refine L_brings hS hM hr hon3 hon (Or.inl rfl) e8 hd (fun M1 f1 hS1 => ?_)
    have r69 : rd M1 69 = rd M 69 := funext fun j => f1.2.2 _ _ (by unfold KA; omega)
    refine L_brings hS1 (hM.fr f1 (fun j q => by unfold KA at q; omega)) hr hon3 (by rw [f1.2.2 _ _ (by unfold KA; omega)]; exact hon) (Or.inr rfl) (by rw [r69]; exact e8) hd (fun M2 f2 hS2 => ?_)
    refine B_X12_brings_78 (sm := sm) hd hS2 ⟨⟨by decide, by decide⟩, fun _ => ?_, fun w => by omega⟩
    refine h _ M2 ⟨f1.tr f2, ?_⟩ hS2
    rw [r69, eg, ← ctr_brg hz.1 ho.1 hon3, Int.zero_add]
    rfl
  all_goals
    have eon : on = -1 := by omega
    have egl : gl goal on = goal := by unfold gl; rw [if_pos eon]
    rw [egl] at h
  · refine h 0 M ⟨Fr.rf, ?_⟩ hS
    have h0 : ¬ rd M 69 (12 + 3 * s) = 1 := fun w => by rw [if_pos w] at e8; omega
    unfold brg
    rw [if_neg (by omega), if_neg h0, if_neg h0]
    split
    · rfl
    · split
      · rfl
      · rw [if_pos (by omega)]
  · refine h _ M ⟨Fr.rf, ?_⟩ hS
    have h0 : rd M 69 (12 + 3 * s) = 1 := by
      by_cases w : rd M 69 (12 + 3 * s) = 1
      · exact w
      · rw [if_neg w] at e8; omega
    unfold brg
    by_cases w : goal = 5
    · simp [w, h0]
    · have w7 : goal = 7 := by omega
      simp [w7, h0]
  · refine h 0 M ⟨Fr.rf, ?_⟩ hS
    unfold brg
    rw [if_neg (by omega), if_neg (by omega), if_pos q4]
  · refine h _ M ⟨Fr.rf, ?_⟩ hS
    unfold brg
    rw [if_pos q2]
    by_cases w : goal = s
    · rw [if_neg (by omega), if_pos w]
    · rw [if_pos w, if_neg w]
theorem T_X12_findStays {so n c : Int} (hS : Sh M) (hso : 0 ≤ so ∧ so ≤ 1) (hn : 0 ≤ n ∧ n < 6) (hc : 0 ≤ c ∧ c ≤ 100) (hd : 2 ≤ d) (h : ∀ M', (Ch M M' 87 (36 * so + 6 * n) 6 ∧ ∀ k : Int, 0 ≤ k → k ≤ n → rd M' 87 (36 * so + 6 * n + k) = stv n c k) → Sh M' → Q vU M') : C G Y_X12_findStays d 0 0 [vA 67, vI so, vI n, vI c] M Q := by
  refine C_X12_findStays (B_X12_findStays_0 (by omega) hS ?_)
  have key : ∀ m j : Nat, (j : Int) + m = n + 1 → ∀ Mk, Ch M Mk 87 (36 * so + 6 * n) 6 → Sh Mk → (∀ k : Int, 0 ≤ k → k < j → rd Mk 87 (36 * so + 6 * n + k) = stv n c k) → X G Y_X12_findStays d 0 0 3 [vA 67, vI so, vI n, vI c, vI j, vU, vU, vU] [] Mk Q := by
    intro m
    induction m with
    | zero =>
      intro j hj Mk hC hSk hv
      exact B_X12_findStays_3 hd hSk ⟨⟨by omega, by omega⟩, ⟨by omega, by omega⟩, fun _ => h Mk ⟨hC, fun k k0 k1 => hv k k0 (by omega)⟩ hSk, fun w => by omega⟩
    | succ m ih =>
      intro j hj Mk hC hSk hv
      refine B_X12_findStays_3 hd hSk ⟨⟨by omega, by omega⟩, ⟨by omega, by omega⟩, fun w => by omega, fun _ => ⟨hn, ⟨by omega, by omega⟩, fun v5 e5 => ?_⟩⟩
      have hov := ovF_ok (i := (j : Int)) hn.1 hn.2 (show 0 ≤ (j : Int) by omega) (by omega) (by omega) (by omega) (by omega) (Int.le_refl _)
      rw [← e5] at hov
      have k56 : ∀ m2 i : Nat, (i : Int) + m2 = 5 → n ≤ i → X G Y_X12_findStays d 0 0 56 [vA 67, vI so, vI n, vI c, vI j, vL (huF (pwF v5 c j n.toNat) (i - n.toNat)), vU, vI i] [] Mk Q := by
        intro m2
        induction m2 with
        | zero =>
          intro i hi hni
          refine B_X12_findStays_56 (by omega) hSk ⟨⟨by omega, by omega⟩, fun _ => ⟨by omega, by omega, fun M4 e4 hS4 => ?_⟩, fun w => by omega⟩
          refine ih (j + 1) (by omega) M4 (by rw [e4]; exact hC.wr (by omega) (by omega)) hS4 (fun k k0 k1 => ?_)
          rw [e4, rd_wr]
          by_cases q : k = j
          · rw [if_pos ⟨rfl, by omega⟩, ← stv_M hn.1 hn.2 hc.1 (by omega) k0 (by omega) (by omega)]
            unfold stM
            rw [q, e5, show (5 - n).toNat = i - n.toNat by omega]
          · rw [if_neg (by omega)]; exact hv k k0 (by omega)
        | succ m2 ih2 =>
          intro i hi hni
          refine B_X12_findStays_56 (by omega) hSk ⟨⟨by omega, by omega⟩, fun w => by omega, fun _ v6 e6 => ?_⟩
          have := ih2 (i + 1) (by omega) (by omega)
          rw [show i + 1 - n.toNat = (i - n.toNat) + 1 by omega, huF, ← e6] at this
          exact this
      have k20 : ∀ m2 i : Nat, (i : Int) + m2 = n → X G Y_X12_findStays d 0 0 20 [vA 67, vI so, vI n, vI c, vI j, vL (pwF v5 c j i), vU, vI i] [] Mk Q := by
        intro m2
        induction m2 with
        | zero =>
          intro i hi
          refine B_X12_findStays_20 (by omega) hSk ⟨⟨by omega, by omega⟩, ⟨by omega, by omega⟩, fun _ => ?_, fun w => by omega⟩
          have := k56 (5 - n).toNat n.toNat (by omega) (by omega)
          rw [Nat.sub_self, huF, show ((n.toNat : Nat) : Int) = n by omega, show n.toNat = i by omega] at this
          exact this
        | succ m2 ih2 =>
          intro i hi
          refine B_X12_findStays_20 (by omega) hSk ⟨⟨by omega, by omega⟩, ⟨by omega, by omega⟩, fun w => by omega, fun _ => ⟨⟨by omega, by omega⟩, by split <;> exact ⟨by omega, by omega⟩, fun v6 e6 => ?_⟩⟩
          have e7 : (if (j : Int) ≤ (i : Int) then 100 - c else c) = (if (i : Int) < (j : Int) then c else 100 - c) := by
            by_cases q : (i : Int) < j
            · rw [if_neg (by omega), if_pos q]
            · rw [if_pos (by omega), if_neg q]
          rw [e7] at e6
          have := ih2 (i + 1) (by omega)
          rw [pwF, ← e6] at this
          exact this
      exact k20 n.toNat 0 (by omega)
  exact key (n + 1).toNat 0 (by omega) M Ch.rf hS (fun k k0 k1 => by omega)
end DM
