/-! ===== what the law told, asked once ===== -/
def tolV (r : Int → Int) (sm : Int → LSm) (p l s z o : Int) : Int := tolN (if 0 < z then chn r sm 0 s p l z o else 0) (if 0 < o then chn r sm 1 s p l z o else 0) (prcs r sm s p l z o)
def slt (p l s z o : Int) : Int := (stp0 p l s) * 36 + (z * 6 + o)
/-- what is kept is right, or stale -/
def CKp (M : MM) (r : Int → Int) (sm : Int → LSm) : Prop := rd M 25 6 = 1 ∨ (rd M 25 6 = 0 ∧ ∀ p l s z o : Int, NS p l → 0 ≤ s → s < 5 → bt p s = 0 → 0 ≤ z → z < 6 → 0 ≤ o → o < 6 → rd M 29 (slt p l s z o) = 0 ∨ rd M 29 (slt p l s z o) = tolV r sm p l s z o)
theorem slt_ok {p l s z o : Int} (h : NS p l) (hs : 0 ≤ s ∧ s < 5) (hb : bt p s = 0) (hz : 0 ≤ z ∧ z < 6) (ho : 0 ≤ o ∧ o < 6) : 0 ≤ slt p l s z o ∧ slt p l s z o < 5940 := by
  have := step_ok h hs hb
  unfold slt; omega
theorem slt_inj {p l s z o p' l' s' z' o' : Int} (h : NS p l) (hs : 0 ≤ s ∧ s < 5) (hb : bt p s = 0) (hz : 0 ≤ z ∧ z < 6) (ho : 0 ≤ o ∧ o < 6) (h' : NS p' l') (hs' : 0 ≤ s' ∧ s' < 5) (hb' : bt p' s' = 0) (hz' : 0 ≤ z' ∧ z' < 6) (ho' : 0 ≤ o' ∧ o' < 6) (e : slt p l s z o = slt p' l' s' z' o') : p = p' ∧ l = l' ∧ s = s' ∧ z = z' ∧ o = o' := by
  have a := step_ok h hs hb
  have b := step_ok h' hs' hb'
  unfold slt at e
  have e1 : stp0 p l s = stp0 p' l' s' := by omega
  refine ⟨a.2.2.1.symm.trans ((congrArg (gt ivP) e1).trans b.2.2.1), a.2.2.2.1.symm.trans ((congrArg (gt ivL) e1).trans b.2.2.2.1), a.2.2.2.2.1.symm.trans ((congrArg (gt ivS) e1).trans b.2.2.2.2.1), by omega, by omega⟩
def KTd (a j : Int) : Prop := a = 23 ∨ a = 24 ∨ a = 29 ∨ (a = 25 ∧ j = 6)
section TD
variable {G : GG} {d : Nat} {M : MM} {Q : PV → MM → Prop} {sm : Int → LSm} {r : Int → Int}
theorem T_X8_told {p l s z o : Int} (hS : Sh M) (hC : COK M r sm) (hT : TBL M) (hK : CKp M r sm) (hn : NS p l) (hs : 0 ≤ s ∧ s < 5) (hb : bt p s = 0) (hz : 0 ≤ z ∧ z < 6) (ho : 0 ≤ o ∧ o < 6) (hd : 6 ≤ d)
    (h : ∀ v M', (Fr KTd M M' ∧ CKp M' r sm ∧ v = tolV r sm p l s z o) → Sh M' → Q (vI v) M') : C G Y_X8_told d 0 0 [vA 25, vI p, vI l, vI s, vI z, vI o] M Q := by
  have hp := hn.1
  have hl := hn.2.1
  have hst := step_ok hn hs hb
  have hsl := slt_ok hn hs hb hz ho
  have hnd := nod_rng hn
  have hV := hC.2.1
  have c0 := @chn_ok r sm 0 s p l z o
  have c1 := @chn_ok r sm 1 s p l z o
  have hpr := @prcs_ok r sm s p l z o hz ho
  have hcz : 0 ≤ (if 0 < z then chn r sm 0 s p l z o else 0) ∧ (if 0 < z then chn r sm 0 s p l z o else 0) ≤ 100 := by split <;> omega
  have hco : 0 ≤ (if 0 < o then chn r sm 1 s p l z o else 0) ∧ (if 0 < o then chn r sm 1 s p l z o else 0) ≤ 100 := by split <;> omega
  have htol := tol_ok hcz hco hpr
  have enod : ((p * 5) + l) + 1 = nod p l := rfl
  have elow : iAnd (iXor p (-1)) ((iShl 1 s) - 1) = lowr p s := rfl
  -- once what is stale is gone
  have main : ∀ M1, Fr KTd M M1 → Sh M1 → rd M1 25 6 = 0 → (∀ p l s z o : Int, NS p l → 0 ≤ s → s < 5 → bt p s = 0 → 0 ≤ z → z < 6 → 0 ≤ o → o < 6 → rd M1 29 (slt p l s z o) = 0 ∨ rd M1 29 (slt p l s z o) = tolV r sm p l s z o) → X G Y_X8_told d 0 0 20 [vA 25, vI p, vI l, vI s, vI z, vI o, vU, vU, vU, vU, vU, vU] [] M1 Q := by
    intro M1 f1 hS1 h6 hk
    have t26 : rd M1 26 (nod p l) = gt fsL (nod p l) := by rw [f1.2.2 _ _ (by unfold KTd; omega)]; exact (hT _ hnd.1 hnd.2).1
    have hC1 : COK M1 r sm := hC.fr f1 (fun a j q => by unfold KTd at q; omega)
    refine B_X8_told_20 (r := r) (sm := sm) (by omega) hS1 ?_
    rw [elow, enod]
    refine ⟨hst.2.2.2.2.2.1, hst.2.2.2.2.2.2, fun v3 e3 => ⟨hnd.1, hnd.2, fun v6 e6 => ?_⟩⟩
    have e6' : v6 = slt p l s z o := by rw [e6, t26, e3]; rfl
    clear e6
    subst e6'
    -- the end: it is written down
    have fin : ∀ (M5 : MM) (x6 x8 x9 ch pr : Int), Fr KTd M M5 → Sh M5 → rd M5 25 6 = 0 → (∀ j, rd M5 29 j = rd M1 29 j) → iOr (iOr 1073741824 (iShl pr 16)) ch = tolV r sm p l s z o → X G Y_X8_told d 0 0 193 [vA 25, vI p, vI l, vI s, vI z, vI o, vI x6, vI (slt p l s z o), vI x8, vI x9, vI ch, vI pr] [] M5 Q := by
      intro M5 x6 x8 x9 ch pr f5 hS5 h56 e29 ev
      refine B_X8_told_193 (by omega) hS5 ⟨hsl.1, hsl.2, fun M6 e6 hS6 => ?_⟩
      rw [ev] at e6
      have ew : rd M6 29 (slt p l s z o) = tolV r sm p l s z o := by rw [e6, rd_wr, if_pos ⟨rfl, rfl⟩]
      rw [ew]
      refine h _ M6 ⟨by rw [e6]; exact f5.wr (Or.inr (Or.inr (Or.inl rfl))), Or.inr ⟨by rw [e6, rd_wr, if_neg (by omega)]; exact h56, fun p' l' s' z' o' n' s0 s1 b' z0 z1 o0 o1 => ?_⟩, rfl⟩ hS6
      by_cases q : slt p' l' s' z' o' = slt p l s z o
      · obtain ⟨q1, q2, q3, q4, q5⟩ := slt_inj n' ⟨s0, s1⟩ b' ⟨z0, z1⟩ ⟨o0, o1⟩ hn hs hb hz ho q
        subst q1 q2 q3 q4 q5
        exact Or.inr ew
      · rw [e6, rd_wr, if_neg (fun w => q w.2), e29]
        exact hk p' l' s' z' o' n' s0 s1 b' z0 z1 o0 o1
    have fco : FR (fcts 1 s l (z + o) (if (1 : Int) = 0 then z else o) (mnO r p) (pop p)) := fcts_ok hV (Or.inr rfl) hs hp hl hz ho
    have fcz : FR (fcts 0 s l (z + o) (if (0 : Int) = 0 then z else o) (mnO r p) (pop p)) := fcts_ok hV (Or.inl rfl) hs hp hl hz ho
    have k138 : ∀ (M5 : MM) (x6 ch pr : Int), Fr KTd M M5 → Sh M5 → rd M5 25 6 = 0 → (∀ j, rd M5 29 j = rd M1 29 j) → ch = (if 0 < z then chn r sm 0 s p l z o else 0) → pr = (if 0 < z then z * prc r sm 0 s p l z o else 0) → X G Y_X8_told d 0 0 138 [vA 25, vI p, vI l, vI s, vI z, vI o, vI x6, vI (slt p l s z o), vI (mnO r p), vI (pop p), vI ch, vI pr] [] M5 Q := by
      intro M5 x6 ch pr f5 hS5 h56 e29 ech epr
      refine B_X8_told_138 (r := r) (sm := sm) (by omega) hS5 ⟨⟨by omega, by omega⟩, fun q => ?_, fun q M6 ⟨f6, ef6⟩ hS6 => ?_⟩
      · refine fin M5 x6 _ _ ch pr f5 hS5 h56 e29 ?_
        have e1 : (if 0 < o then chn r sm 1 s p l z o else 0) = 0 := if_neg (by omega)
        have e2 : prcs r sm s p l z o = pr := by unfold prcs; rw [if_neg (show ¬ 0 < o by omega), epr]; omega
        have := tol_or hcz (show 0 ≤ (0 : Int) ∧ (0 : Int) ≤ 100 by decide) hpr
        rw [← ech, e2, show iShl 0 8 = 0 from rfl, iOr_0 (by rw [ech]; exact ⟨by omega, by omega⟩)] at this
        rw [this]
        unfold tolV
        rw [e1, e2, ← ech]
      · have f6' : Fr KTd M M6 := f5.tr (f6.mono (fun a j q => Or.inl q))
        have hC6 : COK M6 r sm := hC.fr f6' (fun a j q => by unfold KTd at q; omega)
        refine ⟨hC6, by rw [ef6]; exact fco, Or.inl rfl, fun r9 M8 ⟨f8, e9⟩ hS8 v11 e11 => ?_⟩
        have f8' : Fr KTd M M8 := f6'.tr (f8.mono (fun a j q => Or.inr (Or.inl q)))
        have ef8 : Fc0 M8 = Fc0 M6 := funext fun i => by unfold Fc0; rw [f8.2.2 _ _ (by unfold KB; omega)]
        refine ⟨hC.fr f8' (fun a j q => by unfold KTd at q; omega), by rw [ef8, ef6]; exact fco, Or.inr rfl, fun r16 M15 ⟨f15, e16⟩ hS15 v18 e18 => ?_⟩
        rw [ef6] at e9
        rw [ef8, ef6] at e16
        have e9' : r9 = chn r sm 1 s p l z o := e9
        have e16' : r16 = prc r sm 1 s p l z o := e16
        have x15 : ∀ a j : Int, a ≠ 23 → a ≠ 24 → rd M15 a j = rd M5 a j := fun a j q1 q2 => by rw [f15.2.2 _ _ (by unfold KB; omega), f8.2.2 _ _ (by unfold KB; omega), f6.2.2 _ _ (by unfold KC; omega)]
        refine fin M15 x6 _ _ v11 v18 (f8'.tr (f15.mono (fun a j q => Or.inr (Or.inl q)))) hS15 (by rw [x15 _ _ (by decide) (by decide)]; exact h56) (fun j => by rw [x15 _ _ (by decide) (by decide)]; exact e29 j) ?_
        have e2 : prcs r sm s p l z o = v18 := by unfold prcs; rw [if_pos q, e18, epr, e16']
        have := tol_or hcz hco hpr
        rw [e2, ← ech, if_pos q, ← e9', ← e11] at this
        rw [this]
        unfold tolV
        rw [e2, ← ech, if_pos q, ← e9']
    refine ⟨hsl.1, hsl.2, ?_, fun q => ?_, fun q => ⟨hC1.1, hV, fun v12 e12 => ⟨hp.1, hp.2, fun v15 e15 => ⟨⟨by omega, by omega⟩, fun q2 => ?_, fun q2 M17 ⟨f17, ef17⟩ hS17 => ?_⟩⟩⟩⟩
    · rcases hk p l s z o hn hs.1 hs.2 hb hz.1 hz.2 ho.1 ho.2 with w | w
      · rw [w]; exact ⟨by decide, by decide⟩
      · rw [w]; unfold tolV; exact ⟨by omega, by omega⟩
    · have ew : rd M1 29 (slt p l s z o) = tolV r sm p l s z o := by
        rcases hk p l s z o hn hs.1 hs.2 hb hz.1 hz.2 ho.1 ho.2 with w | w
        · exact absurd w q
        · exact w
      rw [ew]
      exact h _ M1 ⟨f1, Or.inr ⟨h6, hk⟩, rfl⟩ hS1
    · rw [e12, e15]
      exact k138 M1 v3 0 0 f1 hS1 h6 (fun j => rfl) (by rw [if_neg (by omega)]) (by rw [if_neg (by omega)])
    · rw [e12, e15] at ef17
      rw [e12, e15]
      have f17' : Fr KTd M M17 := f1.tr (f17.mono (fun a j q => Or.inl q))
      refine ⟨hC.fr f17' (fun a j q => by unfold KTd at q; omega), by rw [ef17]; exact fcz, Or.inl rfl, fun r24 M23 ⟨f23, e24⟩ hS23 => ?_⟩
      have f23' : Fr KTd M M23 := f17'.tr (f23.mono (fun a j q => Or.inr (Or.inl q)))
      have ef23 : Fc0 M23 = Fc0 M17 := funext fun i => by unfold Fc0; rw [f23.2.2 _ _ (by unfold KB; omega)]
      refine ⟨hC.fr f23' (fun a j q => by unfold KTd at q; omega), by rw [ef23, ef17]; exact fcz, Or.inr rfl, fun r30 M29 ⟨f29, e30⟩ hS29 v32 e32 => ?_⟩
      rw [ef17] at e24
      rw [ef23, ef17] at e30
      have x29 : ∀ a j : Int, a ≠ 23 → a ≠ 24 → rd M29 a j = rd M1 a j := fun a j q1 q2 => by rw [f29.2.2 _ _ (by unfold KB; omega), f23.2.2 _ _ (by unfold KB; omega), f17.2.2 _ _ (by unfold KC; omega)]
      refine k138 M29 v3 r24 v32 (f23'.tr (f29.mono (fun a j q => Or.inr (Or.inl q)))) hS29 (by rw [x29 _ _ (by decide) (by decide)]; exact h6) (fun j => x29 _ _ (by decide) (by decide)) (by rw [if_pos q2, e24]; rfl) (by rw [if_pos q2, e32, e30]; rfl)
  refine C_X8_told (B_X8_told_0 (by omega) hS ?_)
  rcases hK with h1 | ⟨h0, hk⟩
  · rw [h1]
    refine ⟨⟨by decide, by decide⟩, fun q => absurd q (by decide), fun _ => ⟨⟨sO_29 hS, by rw [sL_29 hS]; decide, by rw [sL_29 hS]; decide⟩, fun M3 ⟨len, e1, c3, v3⟩ hS3 M6 e6 hS6 => ?_⟩⟩
    have el : len = 5940 := by rw [← e1]; exact sL_29 hS
    subst el
    refine main M6 (by rw [e6]; exact (Fr.ch c3 (fun j _ _ => Or.inr (Or.inr (Or.inl rfl)))).wr (Or.inr (Or.inr (Or.inr ⟨rfl, rfl⟩)))) hS6 (by rw [e6, rd_wr, if_pos ⟨rfl, rfl⟩]) (fun p' l' s' z' o' n' s0 s1 b' z0 z1 o0 o1 => Or.inl ?_)
    have := slt_ok n' ⟨s0, s1⟩ b' ⟨z0, z1⟩ ⟨o0, o1⟩
    rw [e6, rd_wr, if_neg (by omega)]
    exact v3 _ this.1 this.2
  · rw [h0]
    exact ⟨⟨by decide, by decide⟩, fun _ => main M Fr.rf hS h0 hk, fun q => absurd rfl q⟩
end TD
