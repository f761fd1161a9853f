def KS (p l z o a j : Int) : Prop := KE a j ∨ (a = 81 ∧ 14 * sta p l z o ≤ j ∧ j < 14 * sta p l z o + 14) ∨ (a = 82 ∧ j = sta p l z o)
/-- the model's table holds V at a state -/
def TbE (M : MM) (p l z o V : Int) : Prop := nrm (rd M 81) (14 * sta p l z o) 14 ∧ vl (rd M 81) (14 * sta p l z o) 14 = V
theorem cmpI_pos {x y : Int} : 0 < cmpI x y ↔ y < x := by
  unfold cmpI
  split
  · omega
  · split <;> omega
theorem cmpI_R {x y : Int} : inR (cmpI x y) := by
  unfold cmpI
  split
  · exact ⟨by decide, by decide⟩
  · split <;> exact ⟨by decide, by decide⟩
theorem bt_shl {c s : Int} (hc : 0 ≤ c ∧ c < 5) (hs : 0 ≤ s ∧ s < 5) : bt (iShl 1 c) s = 1 ↔ s = c :=
  fin2 (P := fun c s => bt (iShl 1 c) s = 1 ↔ s = c) 5 5 (by decide +kernel) hc.1 hc.2 hs.1 hs.2
theorem bt_0 {s : Int} (hs : 0 ≤ s ∧ s < 5) : bt 0 s = 0 := finI (P := fun s => bt 0 s = 0) 5 (by decide +kernel) hs.1 hs.2
section ST
variable {G : GG} {d : Nat} {M : MM} {Q : PV → MM → Prop} {sm : Int → LSm}
theorem T_X12_reckonState {goal g best p l z o : Int} {can : CAN} (hS : Sh M) (hM : MOK M sm) (hp : 0 ≤ p ∧ p < 32) (hl : -1 ≤ l ∧ l < 5) (hz : 0 ≤ z ∧ z < 6) (ho : 0 ≤ o ∧ o < 6) (hg : 0 ≤ goal ∧ goal ≤ 8 ∧ -1 ≤ rd M 67 39 ∧ rd M 67 39 ≤ 1 ∧ (rd M 67 39 ≠ -1 → goal = 8)) (eg : gl goal (rd M 67 39) = g)
    (hbest : best = 0 ∨ best = 1) (hcan : canOk can) (hc1 : best = 1 → ∀ s : Int, 0 ≤ s → s < 5 → (can p l z o s = true ↔ bt (canB (rd M 69) p) s = 1))
    (hc0 : best = 0 → -1 ≤ rd M 82 (sta p l z o) ∧ rd M 82 (sta p l z o) < 5 ∧ ∀ s : Int, 0 ≤ s → s < 5 → (can p l z o s = true ↔ s = rd M 82 (sta p l z o)))
    (hT : ∀ s a b : Int, can p l z o s = true → rd M 69 (12 + 3 * s) ≠ 1 → 0 ≤ a → a ≤ z → 0 ≤ b → b ≤ o → TbE M (sb p s) s a b (VV (rd M 69) sm g can (sb p s) s a b).1) (hd : 8 ≤ d)
    (h : ∀ M', Fr (KS p l z o) M M' → Sh M' → TbE M' p l z o (VV (rd M 69) sm g can p l z o).1 → rd M' 82 (sta p l z o) = (if best = 0 then rd M 82 (sta p l z o) else (VV (rd M 69) sm g can p l z o).2) → Q vU M') :
    C G Y_X12_reckonState d 0 0 [vA 67, vI goal, vI best, vI p, vI l, vI z, vI o] M Q := by
  have hst : 0 ≤ sta p l z o ∧ sta p l z o < 6912 := by unfold sta; omega
  have hg8 : 0 ≤ g := by rw [← eg]; unfold gl; split <;> omega
  have hq := pop_le hp.1 hp.2
  have hb0 := bnd_lt hq.1 hq.2
  have hV0 := hM.1
  have n0 := hV0.1
  have n5 := hV0.2.1
  have hVV := VV_eq (r := rd M 69) (sm := sm) (g := g) hcan (p := p) (l := l) (z := z) (o := o) hp
  have hVok := VV_ok (sm := sm) hcan hV0 hg8 _ p l z o hp.1 hp.2 rfl hz.1 hz.2 ho.1 ho.2
  refine C_X12_reckonState (B_X12_reckonState_0 (by omega) hS fun v1 e1 v2 e2 => ?_)
  have e1' : v1 = sta p l z o := e1
  have e2' : v2 = 14 * sta p l z o := by rw [e2, e1']
  clear e1 e2
  subst e1' e2'
  have hAr : ∀ M', Sh M' → Ar M' 81 (14 * sta p l z o) 14 := fun M' hS' => hS'.Ar 81 96768 rfl ⟨by decide, by decide, by omega, by decide⟩ (by omega)
  refine ⟨hAr M hS, fun M4 ⟨c4, z4⟩ hS4 => ⟨⟨by omega, by omega⟩, ?_⟩⟩
  have f4 : Fr (KS p l z o) M M4 := Fr.ch c4 (fun j j0 j1 => Or.inr (Or.inl ⟨rfl, j0, j1⟩))
  -- behind the clearing
  have main : ∀ M5, Fr (KS p l z o) M M5 → Sh M5 → (∀ i : Int, 0 ≤ i → i < 14 → rd M5 81 (14 * sta p l z o + i) = 0) → rd M5 82 (sta p l z o) = (if best = 0 then rd M 82 (sta p l z o) else -1) → X G Y_X12_reckonState d 0 0 40 [vA 67, vI goal, vI best, vI p, vI l, vI z, vI o, vI (sta p l z o), vI (14 * sta p l z o), vU, vU, vU, vU] [] M5 Q := by
    intro M5 f5 hS5 z5 e82
    have e69 : rd M5 69 = rd M 69 := funext fun j => f5.2.2 _ _ (by unfold KS KE KA; omega)
    have e39 : rd M5 67 39 = rd M 67 39 := f5.2.2 _ _ (by unfold KS KE KA; omega)
    refine B_X12_reckonState_40 (by omega) hS5 ?_
    rw [e69]
    refine ⟨⟨by omega, by omega⟩, fun hzo => ?_, fun hzo => ?_⟩
    · -- somebody is there
      rw [if_neg hzo] at hVV
      generalize hw : (fun s => Wf (rd M 69) sm g (fun p l z o => (VV (rd M 69) sm g can p l z o).1) s p l z o) = w at hVV
      have loop : ∀ x9 : Int, (∀ s : Int, 0 ≤ s → s < 5 → (bt x9 s = 1 ↔ can p l z o s = true)) → X G Y_X12_reckonState d 0 0 177 [vA 67, vI goal, vI best, vI p, vI l, vI z, vI o, vI (sta p l z o), vI (14 * sta p l z o), vI x9, vI 0, vU, vU] [] M5 Q := by
        intro x9 hx9
        have key : ∀ m n : Nat, (n : Int) + m = rd M 69 0 → ∀ Mk, Fr (KS p l z o) M Mk → Sh Mk → nrm (rd Mk 81) (14 * sta p l z o) 14 → vl (rd Mk 81) (14 * sta p l z o) 14 = (bstF (can p l z o) w n).1 → rd Mk 82 (sta p l z o) = (if best = 0 then rd M 82 (sta p l z o) else (bstF (can p l z o) w n).2) →
            X G Y_X12_reckonState d 0 0 177 [vA 67, vI goal, vI best, vI p, vI l, vI z, vI o, vI (sta p l z o), vI (14 * sta p l z o), vI x9, vI n, vU, vU] [] Mk Q := by
          intro m
          induction m with
          | zero =>
            intro n hn Mk fk hSk nk vk ck
            have ek : rd Mk 69 = rd M 69 := funext fun j => fk.2.2 _ _ (by unfold KS KE KA; omega)
            refine B_X12_reckonState_177 (by omega) hSk ?_
            rw [ek]
            refine ⟨⟨by omega, by omega⟩, ⟨by omega, by omega⟩, fun _ => ?_, fun q => by omega⟩
            have en : (rd M 69 0).toNat = n := by omega
            rw [en] at hVV
            refine h Mk fk hSk ⟨nk, by rw [vk, hVV]⟩ (by rw [ck, hVV])
          | succ m ih =>
            intro n hn Mk fk hSk nk vk ck
            have ek : rd Mk 69 = rd M 69 := funext fun j => fk.2.2 _ _ (by unfold KS KE KA; omega)
            have ek39 : rd Mk 67 39 = rd M 67 39 := fk.2.2 _ _ (by unfold KS KE KA; omega)
            have hMk := hM.fr fk (fun j q => by unfold KS KE KA at q; omega)
            refine B_X12_reckonState_177 (by omega) hSk ?_
            rw [ek]
            refine ⟨⟨by omega, by omega⟩, ⟨by omega, by omega⟩, fun q => by omega, fun _ => ⟨fun q => ?_, fun q => ?_⟩⟩
            · have hcf : can p l z o n = false := by
                cases hcn : can p l z o n with
                | false => rfl
                | true => exact absurd ((hx9 n (by omega) (by omega)).mpr hcn) q
              have eb : bstF (can p l z o) w (n + 1) = bstF (can p l z o) w n := by simp [bstF, hcf]
              exact ih (n + 1) (by omega) Mk fk hSk nk (by rw [vk, eb]) (by rw [ck, eb])
            · have hcn : can p l z o n = true := (hx9 n (by omega) (by omega)).mp q
              have hbn := (hcan p l z o n hcn).2.2
              have hps := pop_sb hp.1 hp.2 (show 0 ≤ (n : Int) by omega) (show (n : Int) < 5 by omega) hbn
              have hsl := sb_lt hp.1 hp.2 (show 0 ≤ (n : Int) by omega) (show (n : Int) < 5 by omega)
              have hns : sb p n ≠ p := by have := (sb_add hp.1 hp.2 (show 0 ≤ (n : Int) by omega) (show (n : Int) < 5 by omega) hbn).2; omega
              have hp5 := pop5 hp ⟨show 0 ≤ (n : Int) by omega, show (n : Int) < 5 by omega⟩ hbn
              refine T_X12_reckonScene (sm := sm) (g := g) (U := fun a b => (VV (rd M 69) sm g can (sb p n) n a b).1) hSk hMk ⟨⟨by omega, by omega⟩, hp, hl, hz, ho⟩ (by rw [ek39]; exact hg) (by rw [ek39]; exact eg) hbn (fun hne a b a0 a1 b0 b1 => ?_) (by omega) (fun M6 f6 hS6 n6 v6 => ?_)
              · rw [ek] at hne
                obtain ⟨t1, t2⟩ := hT n a b hcn hne a0 a1 b0 b1
                have hdis : 14 * sta (sb p n) n a b + 14 ≤ 14 * sta p l z o ∨ 14 * sta p l z o + 14 ≤ 14 * sta (sb p n) n a b := by
                  have : sta (sb p n) n a b ≠ sta p l z o := by unfold sta; omega
                  omega
                have e81 : ∀ i : Int, 0 ≤ i → i < 14 → rd Mk 81 (14 * sta (sb p n) n a b + i) = rd M 81 (14 * sta (sb p n) n a b + i) := fun i i0 i1 => fk.2.2 _ _ (by unfold KS KE KA; omega)
                have hok := VV_ok (sm := sm) hcan hV0 hg8 _ (sb p n) n a b hsl.1 hsl.2 rfl a0 (by omega) b0 (by omega)
                rw [hps] at hok
                exact ⟨fun i i0 i1 => by rw [e81 i i0 i1]; exact t1 i i0 i1, (vl_congr (fun i i0 i1 => e81 i i0 i1)).trans t2, hok⟩
              · rw [ek] at v6
                have vw : vl (rd M6 83) 0 14 = w n := by rw [v6, ← hw]; rfl
                have f6' : Fr (KS p l z o) M M6 := fk.tr (f6.mono (fun a j q => Or.inl q))
                have e81 : rd M6 81 = rd Mk 81 := funext fun j => f6.2.2 _ _ (by unfold KE KA; omega)
                have e82' : rd M6 82 (sta p l z o) = rd Mk 82 (sta p l z o) := f6.2.2 _ _ (by unfold KE KA; omega)
                have ek6 : rd M6 69 = rd M 69 := funext fun j => f6'.2.2 _ _ (by unfold KS KE KA; omega)
                -- the new best
                have take : (bstF (can p l z o) w (n + 1) = (w n, (n : Int))) → (best = 0 → rd M 82 (sta p l z o) = n) → X G Y_X12_reckonState d 0 0 244 [vA 67, vI goal, vI best, vI p, vI l, vI z, vI o, vI (sta p l z o), vI (14 * sta p l z o), vI x9, vI n, vU, vU] [] M6 Q := by
                  intro eb hb
                  refine B_X12_reckonState_244 (by omega) hS6 ⟨hst.1, hst.2, fun M7 e7 hS7 => ?_⟩
                  have f7 : Fr (KS p l z o) M M7 := by rw [e7]; exact f6'.wr (Or.inr (Or.inr ⟨rfl, rfl⟩))
                  have e83 : ∀ j, rd M7 83 j = rd M6 83 j := fun j => by rw [e7, rd_wr, if_neg (by omega)]
                  have cp : ∀ m2 k : Nat, k + m2 = 14 → ∀ Mj, Fr (KS p l z o) M Mj → Sh Mj → (∀ j, rd Mj 83 j = rd M6 83 j) → rd Mj 82 (sta p l z o) = n → (∀ i : Int, 0 ≤ i → i < k → rd Mj 81 (14 * sta p l z o + i) = rd M6 83 i) → ∀ x11 : Int,
                      X G Y_X12_reckonState d 0 0 268 [vA 67, vI goal, vI best, vI p, vI l, vI z, vI o, vI (sta p l z o), vI (14 * sta p l z o), vI x9, vI n, vI x11, vI k] [] Mj Q := by
                    intro m2
                    induction m2 with
                    | zero =>
                      intro k hk Mj fj hSj ej cj vj x11
                      refine B_X12_reckonState_268 (by omega) hSj ⟨⟨by omega, by omega⟩, fun _ => ?_, fun q => by omega⟩
                      refine ih (n + 1) (by omega) Mj fj hSj (fun i i0 i1 => ?_) ?_ ?_
                      · rw [vj i i0 (by omega)]; have := n6 i i0 i1; rw [Int.zero_add] at this; exact this
                      · rw [eb, vl_congr (g := rd M6 83) (b := 0) (fun i i0 i1 => by rw [vj i i0 (by omega), Int.zero_add])]; exact vw
                      · rw [cj, eb]
                        split
                        · rename_i q; exact (hb q).symm
                        · rfl
                    | succ m2 ih2 =>
                      intro k hk Mj fj hSj ej cj vj x11
                      refine B_X12_reckonState_268 (by omega) hSj ⟨⟨by omega, by omega⟩, fun q => by omega, fun _ => ⟨by omega, by omega, by omega, by omega, fun M8 e8 hS8 => ?_⟩⟩
                      refine ih2 (k + 1) (by omega) M8 (by rw [e8]; exact fj.wr (Or.inr (Or.inl ⟨rfl, by omega, by omega⟩))) hS8 (fun j => by rw [e8, rd_wr, if_neg (by omega)]; exact ej j) (by rw [e8, rd_wr, if_neg (by omega)]; exact cj) (fun i i0 i1 => ?_) x11
                      rw [e8, rd_wr]
                      by_cases q : i = k
                      · rw [if_pos ⟨rfl, by omega⟩, ej, q]
                      · rw [if_neg (by omega)]; exact vj i i0 (by omega)
                  exact cp 14 0 rfl M7 f7 hS7 e83 (by rw [e7, rd_wr, if_pos ⟨rfl, rfl⟩]) (fun i i0 i1 => by omega) 1
                refine ⟨hS6, ⟨by omega, by omega⟩, fun hb => ?_, fun hb => ⟨hst.1, hst.2, ?_, fun hc => ?_, fun hc => ⟨hS6.Ar 83 14 rfl (by decide) (by decide), hAr M6 hS6, n6, by rw [e81]; exact nk, cmpI_R, fun hcm => ?_, fun hcm => ?_⟩⟩⟩
                · have hcc := (hc0 hb).2.2
                  have hnc := (hcc n (by omega) (by omega)).mp hcn
                  refine take ?_ (fun _ => hnc.symm)
                  have eb : bstF (can p l z o) w n = (0, -1) := bstF_none (fun s s0 s1 => by
                    cases hcs : can p l z o s with
                    | false => rfl
                    | true => have := (hcc s s0 (by omega)).mp hcs; omega)
                  simp [bstF, eb, hcn]
                · rw [e82', ck, if_neg hb]; have := bstF_rng (can := can p l z o) (w := w) (n := n); exact ⟨by omega, by omega⟩
                · rw [e82', ck, if_neg hb] at hc
                  exact take (by simp [bstF, hc, hcn]) (fun q => absurd q hb)
                · rw [vw, e81, vk] at hcm
                  have hnl : ¬ (bstF (can p l z o) w n).1 < w n := fun q => by have := cmpI_pos.mpr q; omega
                  rw [e82', ck, if_neg hb] at hc
                  have eb : bstF (can p l z o) w (n + 1) = bstF (can p l z o) w n := by simp [bstF, hc, hnl]
                  exact ih (n + 1) (by omega) M6 f6' hS6 (by rw [e81]; exact nk) (by rw [e81, vk, eb]) (by rw [e82', ck, eb])
                · rw [vw, e81, vk] at hcm
                  exact take (by simp [bstF, hcn, cmpI_pos.mp hcm]) (fun q => absurd q hb)
        exact key (rd M 69 0).toNat 0 (by omega) M5 f5 hS5 (nrm0 z5) (vl_zero z5) e82
      refine ⟨⟨by omega, by omega⟩, fun hb => ?_, fun hb => ⟨hV0, hp, fun v9 e9 => ?_⟩⟩
      · obtain ⟨q1, q2, q3⟩ := hc0 hb
        rw [if_pos hb] at e82
        rw [e82]
        refine ⟨hst.1, hst.2, ⟨by omega, by omega⟩, fun hc v6 e6 => loop v6 (fun s s0 s1 => ?_), fun hc => loop 0 (fun s s0 s1 => ?_)⟩
        · rw [e6, q3 s s0 s1]; exact bt_shl ⟨by omega, q2⟩ ⟨s0, s1⟩
        · rw [bt_0 ⟨s0, s1⟩, q3 s s0 s1]
          constructor
          · intro w; omega
          · intro w; omega
      · refine loop v9 (fun s s0 s1 => ?_)
        rw [e9]; exact (hc1 (by omega) s s0 s1).symm
    · -- nobody is there
      rw [if_pos hzo] at hVV
      have fin : ∀ (gv : Int) (M9 : MM), gv = gon (rd M 69) g p l → Fr (KS p l z o) M M9 → Sh M9 → nrm (rd M9 81) (14 * sta p l z o) 14 → vl (rd M9 81) (14 * sta p l z o) 14 = gv → rd M9 82 (sta p l z o) = rd M5 82 (sta p l z o) → Q vU M9 := by
        intro gv M9 egv f9 hS9 n9 v9 c9
        refine h M9 f9 hS9 ⟨n9, by rw [v9, hVV, egv]⟩ ?_
        rw [c9, e82, hVV]
      have hgb : 0 ≤ gon (rd M 69) g p l ∧ gon (rd M 69) g p l ≤ bnd (pop p) := by rw [hVV] at hVok; exact hVok
      have hsp := sc_pos (pop p)
      have scb : sc (pop p) < Bp 14 := by
        have : 1 * sc (pop p) ≤ ((5 - pop p) * 58500 + 1) * sc (pop p) := Int.mul_le_mul_of_nonneg_right (by omega) (by omega)
        unfold bnd at hb0; omega
      have k83 : gon (rd M 69) g p l = 0 → X G Y_X12_reckonState d 0 0 83 [vA 67, vI goal, vI best, vI p, vI l, vI z, vI o, vI (sta p l z o), vI (14 * sta p l z o), vU, vU, vU, vU] [] M5 Q := by
        intro hg0
        refine B_X12_reckonState_83 (by omega) hS5 ⟨hS5.Ar 84 14 rfl (by decide) (by decide), fun M6 ⟨c6, z6⟩ hS6 => ⟨hp.1, hp.2, hS6.Ar 84 14 rfl (by decide) (by decide), nrm0 z6, by decide, ⟨pop p, rfl, hq.1, hq.2, by rw [vl_zero z6]; omega⟩, fun M7 ⟨c7, n7, v7⟩ hS7 => ?_⟩⟩
        have w7 := v7 (pop p) rfl hq.1 hq.2
        rw [vl_zero z6] at w7
        have z7 : ∀ i : Int, 0 ≤ i → i < 14 → rd M7 81 (14 * sta p l z o + i) = 0 := fun i i0 i1 => by rw [c7.2.2 _ _ (by omega), c6.2.2 _ _ (by omega)]; exact z5 i i0 i1
        have f7 : Fr (KS p l z o) M M7 := (f5.tr (Fr.ch c6 (fun j _ _ => Or.inl (Or.inr (Or.inr (Or.inl rfl)))))).tr (Fr.ch c7 (fun j _ _ => Or.inl (Or.inr (Or.inr (Or.inl rfl)))))
        have hbp := Bp_pos 14
        refine ⟨hAr M7 hS7, hS7.Ar 84 14 rfl (by decide) (by decide), by decide, nrm0 z7, n7, by decide, by rw [vl_zero z7, w7]; omega, fun M8 ⟨c8, n8, v8⟩ hS8 => ?_⟩
        refine fin 0 M8 hg0.symm (f7.tr (Fr.ch c8 (fun j j0 j1 => Or.inr (Or.inl ⟨rfl, j0, j1⟩)))) hS8 n8 (by rw [v8, vl_zero z7, w7]; omega) ?_
        rw [c8.2.2 _ _ (by omega), c7.2.2 _ _ (by omega), c6.2.2 _ _ (by omega)]
      have g6 : g = 6 ↔ goal = 6 := by
        rw [← eg]; unfold gl
        split
        · rfl
        · rename_i w; have := hg.2.2.2.2 w; omega
      refine ⟨⟨by omega, by omega⟩, fun q => k83 ?_, fun q => ⟨⟨by omega, by omega⟩, fun q2 => k83 ?_, fun q2 => ?_⟩⟩
      · unfold gon; rw [if_neg (fun w => q (g6.mp w.1))]
      · unfold gon; rw [if_neg (fun w => w.2.1 q2)]
      · have hl0 : 0 ≤ l := by omega
        have e10 : (10 : Int) + 3 * (if 0 ≤ l then l else 0) + 2 = 12 + 3 * l := by rw [if_pos hl0]; omega
        have hsc := hV0.2.2.1 l hl0 hl.2
        rw [e10]
        refine ⟨by omega, by omega, ⟨by omega, by omega⟩, fun q3 => k83 ?_, fun q3 => ⟨hS5.Ar 84 14 rfl (by decide) (by decide), fun M6 ⟨c6, z6⟩ hS6 => ⟨hp.1, hp.2, hS6.Ar 84 14 rfl (by decide) (by decide), nrm0 z6, by decide, ⟨pop p, rfl, hq.1, hq.2, by rw [vl_zero z6]; omega⟩, fun M7 ⟨c7, n7, v7⟩ hS7 => ?_⟩⟩⟩
        · unfold gon; rw [if_neg (fun w => q3 w.2.2)]
        · have w7 := v7 (pop p) rfl hq.1 hq.2
          rw [vl_zero z6] at w7
          have z7 : ∀ i : Int, 0 ≤ i → i < 14 → rd M7 81 (14 * sta p l z o + i) = 0 := fun i i0 i1 => by rw [c7.2.2 _ _ (by omega), c6.2.2 _ _ (by omega)]; exact z5 i i0 i1
          have f7 : Fr (KS p l z o) M M7 := (f5.tr (Fr.ch c6 (fun j _ _ => Or.inl (Or.inr (Or.inr (Or.inl rfl)))))).tr (Fr.ch c7 (fun j _ _ => Or.inl (Or.inr (Or.inr (Or.inl rfl)))))
          refine ⟨hAr M7 hS7, hS7.Ar 84 14 rfl (by decide) (by decide), by decide, nrm0 z7, n7, by decide, by rw [vl_zero z7, w7]; omega, fun M8 ⟨c8, n8, v8⟩ hS8 => ?_⟩
          refine fin (sc (pop p)) M8 ?_ (f7.tr (Fr.ch c8 (fun j j0 j1 => Or.inr (Or.inl ⟨rfl, j0, j1⟩)))) hS8 n8 (by rw [v8, vl_zero z7, w7]; omega) ?_
          · unfold gon; rw [if_pos ⟨g6.mpr q, q2, q3⟩]
          · rw [c8.2.2 _ _ (by omega), c7.2.2 _ _ (by omega), c6.2.2 _ _ (by omega)]
  refine ⟨fun hb => main M4 f4 hS4 z4 (by rw [if_pos hb]; exact c4.2.2 _ _ (by omega)), fun hb => ⟨hst.1, hst.2, fun M5 e5 hS5 => main M5 (by rw [e5]; exact f4.wr (Or.inr (Or.inr ⟨rfl, rfl⟩))) hS5 (fun i i0 i1 => by rw [e5, rd_wr, if_neg (by omega)]; exact z4 i i0 i1) (by rw [if_neg hb, e5, rd_wr, if_pos ⟨rfl, rfl⟩])⟩⟩
end ST
