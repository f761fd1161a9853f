theorem shl_ok {n : Int} (h0 : 0 ≤ n) (h1 : n ≤ 5) : 1 ≤ iShl 1 n ∧ iShl 1 n ≤ 32 := finI (P := fun n => 1 ≤ iShl 1 n ∧ iShl 1 n ≤ 32) 6 (by decide +kernel) h0 (by omega)
theorem sb_shl {p s n : Int} (hp : 0 ≤ p ∧ p < 32) (hs : 0 ≤ s ∧ s < 5) (hn : 0 ≤ n ∧ n ≤ 5) : p < iShl 1 n → s < n → sb p s < iShl 1 n :=
  fin3 (P := fun p s n => p < iShl 1 n → s < n → sb p s < iShl 1 n) 32 5 6 (by decide +kernel) hp.1 hp.2 hs.1 hs.2 hn.1 (by omega)
theorem sb_self {p s : Int} (hp : 0 ≤ p ∧ p < 32) (hs : 0 ≤ s ∧ s < 5) : bt (sb p s) s = 1 := by rw [sb_bt hp.1 hp.2 hs.1 hs.2 hs.1 hs.2, if_pos rfl]
/-- states that are there: as many scenes as the row has -/
def VS (n p l : Int) : Prop := 0 ≤ p ∧ p < iShl 1 n ∧ -1 ≤ l ∧ l < n ∧ isStt p l
def KR (a j : Int) : Prop := KE a j ∨ a = 81 ∨ a = 82
def canR (r : Int → Int) (can : CAN) : Prop := canOk can ∧ ∀ p l z o s, can p l z o s = true → s < r 0
section RC
variable {G : GG} {d : Nat} {M : MM} {Q : PV → MM → Prop} {sm : Int → LSm}
theorem sta_inj {p l z o p' l' z' o' : Int} (hl : -1 ≤ l ∧ l < 5) (hz : 0 ≤ z ∧ z < 6) (ho : 0 ≤ o ∧ o < 6) (hl' : -1 ≤ l' ∧ l' < 5) (hz' : 0 ≤ z' ∧ z' < 6) (ho' : 0 ≤ o' ∧ o' < 6) (h : sta p l z o = sta p' l' z' o') : p = p' ∧ l = l' ∧ z = z' ∧ o = o' := by unfold sta at h; omega
theorem T_X12_reckon {goal g best : Int} {can : CAN} (hS : Sh M) (hM : MOK M sm) (hg : 0 ≤ goal ∧ goal ≤ 8 ∧ -1 ≤ rd M 67 39 ∧ rd M 67 39 ≤ 1 ∧ (rd M 67 39 ≠ -1 → goal = 8)) (eg : gl goal (rd M 67 39) = g)
    (hbest : best = 0 ∨ best = 1) (hcan : canR (rd M 69) can) (hc1 : best = 1 → ∀ p l z o s : Int, VS (rd M 69 0) p l → 0 ≤ s → s < 5 → (can p l z o s = true ↔ bt (canB (rd M 69) p) s = 1))
    (hc0 : best = 0 → ∀ p l z o : Int, VS (rd M 69 0) p l → 0 ≤ z → z < 6 → 0 ≤ o → o < 6 → -1 ≤ rd M 82 (sta p l z o) ∧ rd M 82 (sta p l z o) < 5 ∧ ∀ s : Int, 0 ≤ s → s < 5 → (can p l z o s = true ↔ s = rd M 82 (sta p l z o))) (hd : 9 ≤ d)
    (h : ∀ M', Fr KR M M' → Sh M' → (∀ p l z o : Int, VS (rd M 69 0) p l → 0 ≤ z → z < 6 → 0 ≤ o → o < 6 → TbE M' p l z o (VV (rd M 69) sm g can p l z o).1 ∧ rd M' 82 (sta p l z o) = (if best = 0 then rd M 82 (sta p l z o) else (VV (rd M 69) sm g can p l z o).2)) → Q vU M') :
    C G Y_X12_reckon_ d 0 0 [vA 67, vI goal, vI best] M Q := by
  have n0 := hM.1.1
  have n5 := hM.1.2.1
  have hsh := shl_ok n0 n5
  -- what is done, what is as it was
  let D : Int → Int → Int → MM → Prop := fun p l k Mk => Fr KR M Mk ∧ Sh Mk ∧ (∀ p' l' z' o' : Int, VS (rd M 69 0) p' l' → 0 ≤ z' → z' < 6 → 0 ≤ o' → o' < 6 → (p < p' ∨ (p' = p ∧ (l' < l ∨ (l' = l ∧ 6 * z' + o' < k)))) → TbE Mk p' l' z' o' (VV (rd M 69) sm g can p' l' z' o').1 ∧ rd Mk 82 (sta p' l' z' o') = (if best = 0 then rd M 82 (sta p' l' z' o') else (VV (rd M 69) sm g can p' l' z' o').2)) ∧
    (∀ p' l' z' o' : Int, VS (rd M 69 0) p' l' → 0 ≤ z' → z' < 6 → 0 ≤ o' → o' < 6 → ¬ (p < p' ∨ (p' = p ∧ (l' < l ∨ (l' = l ∧ 6 * z' + o' < k)))) → rd Mk 82 (sta p' l' z' o') = rd M 82 (sta p' l' z' o'))
  have key : ∀ (mp : Nat) (p : Int), p + 1 = mp → p < iShl 1 (rd M 69 0) → ∀ Mk, D p (-1) 0 Mk → X G Y_X12_reckon_ d 0 0 11 [vA 67, vI goal, vI best, vI p, vU, vU] [] Mk Q := by
    intro mp
    induction mp with
    | zero =>
      intro p hp _ Mk ⟨fk, hSk, hk, _⟩
      refine B_X12_reckon__11 (by omega) hSk ⟨⟨by omega, by omega⟩, fun _ => h Mk fk hSk (fun p' l' z' o' hv z0 z1 o0 o1 => hk p' l' z' o' hv z0 z1 o0 o1 (Or.inl (by have := hv.1; omega))), fun q => by omega⟩
    | succ mp ihp =>
      intro p hp hpn Mk hD
      refine B_X12_reckon__11 (by omega) hD.2.1 ⟨⟨by omega, by omega⟩, fun q => by omega, fun _ => ?_⟩
      have kl : ∀ (ml : Nat) (l : Int), l + ml = rd M 69 0 → -1 ≤ l → ∀ Mj, D p l 0 Mj → X G Y_X12_reckon_ d 0 0 18 [vA 67, vI goal, vI best, vI p, vI l, vU] [] Mj Q := by
        intro ml
        induction ml with
        | zero =>
          intro l hl hl1 Mj ⟨fj, hSj, hj, hj2⟩
          have ej : rd Mj 69 0 = rd M 69 0 := fj.2.2 _ _ (by unfold KR KE KA; omega)
          refine B_X12_reckon__18 (by omega) hSj ?_
          rw [ej]
          refine ⟨⟨by omega, by omega⟩, ⟨by omega, by omega⟩, fun _ => ?_, fun q => by omega⟩
          rw [show p + (-1) = p - 1 by omega]
          refine ihp (p - 1) (by omega) (by omega) Mj ⟨fj, hSj, fun p' l' z' o' hv z0 z1 o0 o1 hd' => hj p' l' z' o' hv z0 z1 o0 o1 ?_, fun p' l' z' o' hv z0 z1 o0 o1 hd' => hj2 p' l' z' o' hv z0 z1 o0 o1 ?_⟩
          · have := hv.2.2.2.1; have := hv.2.2.1; omega
          · intro w; apply hd'
            have := hv.2.2.2.1; omega
        | succ ml ihl =>
          intro l hl hl1 Mj hDj
          have ej : rd Mj 69 0 = rd M 69 0 := hDj.1.2.2 _ _ (by unfold KR KE KA; omega)
          refine B_X12_reckon__18 (by omega) hDj.2.1 ?_
          rw [ej]
          refine ⟨⟨by omega, by omega⟩, ⟨by omega, by omega⟩, fun q => by omega, fun _ => ?_⟩
          have kk : ∀ (mk k : Nat), k + mk = 36 → ∀ Mi, D p l k Mi → X G Y_X12_reckon_ d 0 0 32 [vA 67, vI goal, vI best, vI p, vI l, vI k] [] Mi Q := by
            intro mk
            induction mk with
            | zero =>
              intro k hk Mi ⟨fi, hSi, hi, hi2⟩
              refine B_X12_reckon__32 (by omega) hSi ⟨⟨by omega, by omega⟩, ⟨by omega, by omega⟩, ⟨by omega, by omega⟩, fun _ => ?_, fun q => absurd (Or.inl (by omega)) q⟩
              refine ihl (l + 1) (by omega) (by omega) Mi ⟨fi, hSi, fun p' l' z' o' hv z0 z1 o0 o1 hd' => hi p' l' z' o' hv z0 z1 o0 o1 (by omega), fun p' l' z' o' hv z0 z1 o0 o1 hd' => hi2 p' l' z' o' hv z0 z1 o0 o1 (by omega)⟩
            | succ mk ihk =>
              intro k hk Mi hDi
              obtain ⟨fi, hSi, hi, hi2⟩ := hDi
              refine B_X12_reckon__32 (by omega) hSi ⟨⟨by omega, by omega⟩, ⟨by omega, by omega⟩, ⟨by omega, by omega⟩, fun q => ?_, fun q => ?_⟩
              · have hns : ¬ isStt p l := by
                  rcases q with q | q
                  · omega
                  · exact q
                refine ihl (l + 1) (by omega) (by omega) Mi ⟨fi, hSi, fun p' l' z' o' hv z0 z1 o0 o1 hd' => hi p' l' z' o' hv z0 z1 o0 o1 ?_, fun p' l' z' o' hv z0 z1 o0 o1 hd' => hi2 p' l' z' o' hv z0 z1 o0 o1 (by omega)⟩
                by_cases w : p' = p ∧ l' = l
                · exact absurd (by have := hv.2.2.2.2; rw [w.1, w.2] at this; exact this) hns
                · omega
              · have hss : isStt p l := by
                  by_cases w : isStt p l
                  · exact w
                  · exact absurd (Or.inr w) q
                have hvs : VS (rd M 69 0) p l := ⟨by omega, hpn, hl1, by omega, hss⟩
                have hp32 : 0 ≤ p ∧ p < 32 := ⟨by omega, by omega⟩
                have hl5 : -1 ≤ l ∧ l < 5 := ⟨hl1, by omega⟩
                rw [Int.tdiv_eq_ediv_of_nonneg (by omega), Int.tmod_eq_emod_of_nonneg (by omega)]
                have hz : 0 ≤ (k : Int) / 6 ∧ (k : Int) / 6 < 6 := by omega
                have ho : 0 ≤ (k : Int) % 6 ∧ (k : Int) % 6 < 6 := by omega
                have hzo : 6 * ((k : Int) / 6) + (k : Int) % 6 = k := by omega
                generalize (k : Int) / 6 = z at *
                generalize (k : Int) % 6 = o at *
                have ei : rd Mi 69 = rd M 69 := funext fun j => fi.2.2 _ _ (by unfold KR KE KA; omega)
                have ei39 : rd Mi 67 39 = rd M 67 39 := fi.2.2 _ _ (by unfold KR KE KA; omega)
                have e82 : rd Mi 82 (sta p l z o) = rd M 82 (sta p l z o) := hi2 p l z o hvs hz.1 hz.2 ho.1 ho.2 (by omega)
                refine T_X12_reckonState (sm := sm) (g := g) (can := can) hSi (hM.fr fi (fun j q => by unfold KR KE KA at q; omega)) hp32 hl5 hz ho (by rw [ei39]; exact hg) (by rw [ei39]; exact eg) hbest hcan.1 (fun hb s s0 s1 => by rw [ei]; exact hc1 hb p l z o s hvs s0 s1) (fun hb => by rw [e82]; exact hc0 hb p l z o hvs hz.1 hz.2 ho.1 ho.2) (fun s a b hcs hne a0 a1 b0 b1 => ?_) (by omega) (fun M2 f2 hS2 ht2 h82 => ⟨hS2, ?_⟩)
                · rw [ei] at hne ⊢
                  have hs := hcan.1 p l z o s hcs
                  have hsn := hcan.2 p l z o s hcs
                  have hsb := sb_add hp32.1 hp32.2 hs.1 hs.2.1 hs.2.2
                  exact (hi (sb p s) s a b ⟨by omega, sb_shl hp32 ⟨hs.1, hs.2.1⟩ ⟨n0, n5⟩ hpn hsn, by omega, hsn, Or.inr ⟨by omega, sb_self hp32 ⟨hs.1, hs.2.1⟩⟩⟩ a0 (by omega) b0 (by omega) (Or.inl (by omega))).1
                · rw [ei] at ht2 h82
                  have f2' : Fr KR M M2 := fi.tr (f2.mono (fun a j q => by
                    rcases q with q | ⟨q, _⟩ | ⟨q, _⟩
                    · exact Or.inl q
                    · exact Or.inr (Or.inl q)
                    · exact Or.inr (Or.inr q)))
                  have oth : ∀ p' l' z' o' : Int, VS (rd M 69 0) p' l' → 0 ≤ z' → z' < 6 → 0 ≤ o' → o' < 6 → ¬ (p' = p ∧ l' = l ∧ 6 * z' + o' = k) → (∀ i : Int, 0 ≤ i → i < 14 → rd M2 81 (14 * sta p' l' z' o' + i) = rd Mi 81 (14 * sta p' l' z' o' + i)) ∧ rd M2 82 (sta p' l' z' o') = rd Mi 82 (sta p' l' z' o') := by
                    intro p' l' z' o' hv z0 z1 o0 o1 hne
                    have hst : sta p' l' z' o' ≠ sta p l z o := by
                      intro w
                      obtain ⟨w1, w2, w3, w4⟩ := sta_inj ⟨hv.2.2.1, by have := hv.2.2.2.1; omega⟩ ⟨z0, z1⟩ ⟨o0, o1⟩ hl5 hz ho w
                      exact hne ⟨w1, w2, by omega⟩
                    exact ⟨fun i i0 i1 => f2.2.2 _ _ (by unfold KS KE KA; omega), f2.2.2 _ _ (by unfold KS KE KA; omega)⟩
                  refine ihk (k + 1) (by omega) M2 ⟨f2', hS2, fun p' l' z' o' hv z0 z1 o0 o1 hd' => ?_, fun p' l' z' o' hv z0 z1 o0 o1 hd' => ?_⟩
                  · by_cases w : p' = p ∧ l' = l ∧ 6 * z' + o' = k
                    · obtain ⟨w1, w2, w3⟩ := w
                      have hz' : z' = z := by omega
                      have ho' : o' = o := by omega
                      subst w1 w2 hz' ho'
                      refine ⟨ht2, ?_⟩
                      rw [h82]
                      split
                      · exact e82
                      · rfl
                    · obtain ⟨q1, q2⟩ := oth p' l' z' o' hv z0 z1 o0 o1 w
                      obtain ⟨r1, r2⟩ := hi p' l' z' o' hv z0 z1 o0 o1 (by omega)
                      exact ⟨⟨fun i i0 i1 => by rw [q1 i i0 i1]; exact r1.1 i i0 i1, (vl_congr (fun i i0 i1 => q1 i i0 i1)).trans r1.2⟩, q2.trans r2⟩
                  · obtain ⟨q1, q2⟩ := oth p' l' z' o' hv z0 z1 o0 o1 (by omega)
                    rw [q2]
                    exact hi2 p' l' z' o' hv z0 z1 o0 o1 (by omega)
          exact kk 36 0 rfl Mj hDj
      exact kl (rd M 69 0 + 1).toNat (-1) (by omega) (by omega) Mk hD
  refine C_X12_reckon_ (B_X12_reckon__0 (by omega) hS fun v1 e1 => ?_)
  rw [e1]
  refine key (iShl 1 (rd M 69 0)).toNat _ (by omega) (by omega) M ⟨Fr.rf, hS, fun p' l' z' o' hv z0 z1 o0 o1 hd' => ?_, fun p' l' z' o' hv z0 z1 o0 o1 hd' => rfl⟩
  have := hv.2.1
  have := hv.2.2.1
  omega
end RC
