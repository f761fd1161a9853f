/-- along a row both ways of choosing come to the same -/
theorem rowEq {r : Int → Int} {sm : Int → LSm} {g n : Int} {f : Int → Int} {L : Nat} (hR : RowOk f n) (hn : n ≤ 5) (hL : plyd r f n L) : ∀ (m i : Nat), i + m = L → ∀ z o, VV r sm g (cF (fun p l _ _ => chD f L p l) r) (pfx f i) (lat f i) z o = VV r sm g (cF (fun p _ _ _ => nxt r f n p) r) (pfx f i) (lat f i) z o := by
  intro m
  induction m with
  | zero =>
    intro i hi z o
    have hpi := pfx_ok hR i (by have := hL.1; omega)
    rw [VV_eq cF_R.1 ⟨hpi.1, hpi.2.1⟩, VV_eq cF_R.1 ⟨hpi.1, hpi.2.1⟩]
    split
    · rfl
    · have e1 : chD f L (pfx f i) (lat f i) = -1 := by rw [chD_at hR L hL.1 (by have := hL.1; omega), if_neg (by omega)]
      have e2 : nxt r f n (pfx f i) = -1 := by
        unfold nxt; rw [hpi.2.2.1, if_neg]
        intro w
        have : i = L := by omega
        subst this
        exact hL.2.2 w.1 w.2.2
      rw [bstF_none, bstF_none]
      · intro s s0 s1; simp [cF, e2]; omega
      · intro s s0 s1; simp [cF, e1]; omega
  | succ m ih =>
    intro i hi z o
    have hLn := hL.1
    have hpi := pfx_ok hR i (by omega)
    rw [VV_eq cF_R.1 ⟨hpi.1, hpi.2.1⟩, VV_eq cF_R.1 ⟨hpi.1, hpi.2.1⟩]
    split
    · rfl
    · have e1 : chD f L (pfx f i) (lat f i) = f i := by rw [chD_at hR L hL.1 (by omega), if_pos (by omega)]
      have e2 : nxt r f n (pfx f i) = f i := by
        unfold nxt; rw [hpi.2.2.1, show ((i : Int)).toNat = i by omega, if_pos ⟨by omega, rfl, hL.2.1 i (by omega)⟩]
      refine bstF_congr (fun s s0 s1 => ⟨by simp [cF, e1, e2], fun hc => ?_⟩)
      have es : s = f i := by simp only [cF, Bool.and_eq_true, decide_eq_true_eq] at hc; rw [hc.1, e1]
      subst es
      unfold Wf
      congr 1
      split
      · rfl
      · have el : lat f (i + 1) = f i := by unfold lat; rw [if_neg (by omega)]; congr 1; omega
        have ep : sb (pfx f i) (f i) = pfx f (i + 1) := rfl
        unfold expc
        refine sumTo_congr (fun a a0 a1 => ?_)
        congr 1
        refine sumTo_congr (fun b b0 b1 => ?_)
        congr 1
        have := ih (i + 1) (by omega) a b
        rw [el] at this
        rw [ep]
        exact congrArg Prod.fst this
/-- what a row is worth from the start on -/
def rowV (r : Int → Int) (sm : Int → LSm) (g : Int) (f : Int → Int) (n z o : Int) : Int := (VV r sm g (cF (fun p _ _ _ => nxt r f n p) r) 0 (-1) z o).1
theorem rowV_eq {r : Int → Int} {sm : Int → LSm} {g n : Int} {f : Int → Int} {L : Nat} (hR : RowOk f n) (hn : n ≤ 5) (hL : plyd r f n L) (z o : Int) : (VV r sm g (cF (fun p l _ _ => chD f L p l) r) 0 (-1) z o).1 = rowV r sm g f n z o := congrArg Prod.fst (rowEq hR hn hL L 0 (by omega) z o)
section RV
variable {G : GG} {d : Nat} {M : MM} {Q : PV → MM → Prop} {sm : Int → LSm}
theorem T_X12_reckonRow {a n : Int} {f : Int → Int} (hS : Sh M) (hM : MOK M sm) (h39 : rd M 67 39 = -1) (ha : a = 88 ∨ a = 89) (hf : ∀ i : Int, 0 ≤ i → i < n → okA M a 20 (0 + i) ∧ rd M a (0 + i) = f i) (hR : RowOk f n) (hn : 0 ≤ n ∧ n ≤ 5) (hpl : plyd (rd M 69) f n n.toNat)
    (hc : ∀ p l z o : Int, 0 ≤ p → p < 32 → -1 ≤ l → l < 5 → 0 ≤ z → z < 6 → 0 ≤ o → o < 6 → rd M 82 (sta p l z o) = chD f n.toNat p l) (hd : 9 ≤ d)
    (h : ∀ M', Fr KR M M' → Sh M' → (∀ z o : Int, 0 ≤ z → z < 6 → 0 ≤ o → o < 6 → TbE M' 0 (-1) z o (rowV (rd M 69) sm 8 f n z o)) → Q vU M') : C G Y_X12_reckonRow d 0 0 [vA 67, vA a, vI 0, vI n] M Q := by
  have hnn : ((n.toNat : Nat) : Int) = n := by omega
  generalize hcan : cF (fun p l _ _ => chD f n.toNat p l) (rd M 69) = can
  have hcR : canR (rd M 69) can := by rw [← hcan]; exact cF_R
  have eg : gl 8 (rd M 67 39) = 8 := by rw [h39]; rfl
  -- can, at the row's states
  have hcan1 : ∀ i : Nat, (i : Int) ≤ n → ∀ z o s : Int, 0 ≤ s → s < 5 → (can (pfx f i) (lat f i) z o s = true ↔ s = chD f n.toNat (pfx f i) (lat f i)) := by
    intro i hi z o s s0 s1
    rw [← hcan]
    simp only [cF, Bool.and_eq_true, decide_eq_true_eq]
    refine ⟨fun w => w.1, fun w => ⟨w, ⟨s0, s1⟩, ?_⟩⟩
    rw [chD_at hR n.toNat (by omega) (by omega)] at w
    by_cases q : i < n.toNat
    · rw [if_pos q] at w
      have hb := hpl.2.1 i q
      have hpi := pfx_ok hR i hi
      rw [w]
      exact canB_s hM.1 ⟨hpi.1, hpi.2.1⟩ (by rw [← w]; exact ⟨s0, s1⟩) hb
    · rw [if_neg q] at w; omega
  refine C_X12_reckonRow (B_X12_reckonRow_0 (by omega) hS ?_)
  have hokf : ∀ Mk, Fr KR M Mk → ∀ i : Int, 0 ≤ i → i < n → okA Mk a 20 (0 + i) ∧ rd Mk a (0 + i) = f i := fun Mk fk i i0 i1 => ⟨(hf i i0 i1).1.tr (Int.le_of_eq fk.1.symm) (fun b _ _ => fk.2.1 b), by rw [fk.2.2 _ _ (by unfold KR KE KA; omega)]; exact (hf i i0 i1).2⟩
  -- the states of the row, the last first
  let D : Int → Int → MM → Prop := fun i k Mk => Fr KR M Mk ∧ Sh Mk ∧ (∀ p l z o : Int, 0 ≤ p → p < 32 → -1 ≤ l → l < 5 → 0 ≤ z → z < 6 → 0 ≤ o → o < 6 → rd Mk 82 (sta p l z o) = chD f n.toNat p l) ∧ ∀ (j : Nat) (z o : Int), (j : Int) ≤ n → 0 ≤ z → z < 6 → 0 ≤ o → o < 6 → (i < j ∨ ((j : Int) = i ∧ 6 * z + o < k)) → TbE Mk (pfx f j) (lat f j) z o (VV (rd M 69) sm 8 can (pfx f j) (lat f j) z o).1
  have k34 : ∀ m : Nat, (m : Int) ≤ n + 1 → ∀ Mk p, (m ≠ 0 → p = pfx f (m - 1)) → D ((m : Int) - 1) 0 Mk → X G Y_X12_reckonRow d 0 0 34 [vA 67, vA a, vI 0, vI n, vI p, vI ((m : Int) - 1), vU, vU] [] Mk Q := by
    intro m
    induction m with
    | zero =>
      intro hm Mk p _ ⟨fk, hSk, _, hk⟩
      refine B_X12_reckonRow_34 (by omega) hSk ⟨⟨by omega, by omega⟩, fun _ => h Mk fk hSk (fun z o z0 z1 o0 o1 => ?_), fun q => by omega⟩
      have := hk 0 z o (by omega) z0 z1 o0 o1 (Or.inl (by omega))
      rw [← hcan] at this
      rw [← rowV_eq hR hn.2 hpl]
      exact this
    | succ m ih =>
      intro hm Mk p hp hD
      have ep : p = pfx f m := hp (by omega)
      subst ep
      have hpi := pfx_ok hR m (by omega)
      have hli := lat_ok hR (i := m) (by omega)
      have em : (((m + 1 : Nat) : Int) - 1) = m := by omega
      rw [em] at hD ⊢
      have kk : ∀ mk k : Nat, k + mk = 36 → ∀ Mj, D m k Mj → X G Y_X12_reckonRow d 0 0 61 [vA 67, vA a, vI 0, vI n, vI (pfx f m), vI m, vI (lat f m), vI k] [] Mj Q := by
        intro mk
        induction mk with
        | zero =>
          intro k hk Mj ⟨fj, hSj, hcj, hj⟩
          refine B_X12_reckonRow_61 (by omega) hSj ⟨⟨by omega, by omega⟩, fun _ => ⟨⟨by omega, by omega⟩, fun v11 e11 => ?_⟩, fun q => by omega⟩
          rw [show (m : Int) + (-1) = m - 1 by omega]
          refine ih (by omega) Mj v11 (fun hm0 => ?_) ⟨fj, hSj, hcj, fun j z o hj1 z0 z1 o0 o1 hd' => hj j z o hj1 z0 z1 o0 o1 (by omega)⟩
          rw [if_pos (by omega)] at e11
          obtain ⟨q, rfl⟩ : ∃ q, m = q + 1 := ⟨m - 1, by omega⟩
          have hfq := hR.1 q (by omega) (by omega)
          have hpq := pfx_ok hR q (by omega)
          have el : lat f (q + 1) = f q := by unfold lat; rw [if_neg (by omega)]; congr 1; omega
          rw [e11, el]
          exact sb_off ⟨hpq.1, hpq.2.1⟩ hfq (pfx_bt hR (by omega))
        | succ mk ihk =>
          intro k hk Mj ⟨fj, hSj, hcj, hj⟩
          refine B_X12_reckonRow_61 (by omega) hSj ⟨⟨by omega, by omega⟩, fun q => by omega, fun _ => ?_⟩
          rw [Int.tdiv_eq_ediv_of_nonneg (by omega), Int.tmod_eq_emod_of_nonneg (by omega)]
          have hz : 0 ≤ (k : Int) / 6 ∧ (k : Int) / 6 < 6 := by omega
          have ho : 0 ≤ (k : Int) % 6 ∧ (k : Int) % 6 < 6 := by omega
          have hzo : 6 * ((k : Int) / 6) + (k : Int) % 6 = k := by omega
          generalize (k : Int) / 6 = z at *
          generalize (k : Int) % 6 = o at *
          have ej : rd Mj 69 = rd M 69 := funext fun j => fj.2.2 _ _ (by unfold KR KE KA; omega)
          have ej39 : rd Mj 67 39 = rd M 67 39 := fj.2.2 _ _ (by unfold KR KE KA; omega)
          have e82 := hcj (pfx f m) (lat f m) z o hpi.1 hpi.2.1 hli.1 hli.2 hz.1 hz.2 ho.1 ho.2
          have hcr := chD_rng hR n.toNat (by omega) (pfx f m) (lat f m)
          refine T_X12_reckonState (sm := sm) (g := 8) (can := can) hSj (hM.fr fj (fun j q => by unfold KR KE KA at q; omega)) ⟨hpi.1, hpi.2.1⟩ hli hz ho (by rw [ej39, h39]; decide) (by rw [ej39]; exact eg) (Or.inl rfl) hcR.1 (fun hb => by omega) (fun _ => by rw [e82]; exact ⟨hcr.1, hcr.2.1, fun s s0 s1 => hcan1 m (by omega) z o s s0 s1⟩) (fun s x y hcs hne x0 x1 y0 y1 => ?_) (by omega) (fun M2 f2 hS2 ht2 h82 => ⟨hS2, ?_⟩)
          · rw [ej]
            have hs := hcR.1 _ _ _ _ _ hcs
            have es := (hcan1 m (by omega) z o s hs.1 hs.2.1).mp hcs
            rw [chD_at hR n.toNat (by omega) (by omega)] at es
            by_cases q : m < n.toNat
            · rw [if_pos q] at es
              have := hj (m + 1) x y (by omega) x0 (by omega) y0 (by omega) (Or.inl (by omega))
              have el : lat f (m + 1) = f m := by unfold lat; rw [if_neg (by omega)]; congr 1; try omega
              rw [el] at this
              rw [es]
              exact this
            · rw [if_neg q] at es; omega
          · rw [ej] at ht2
            rw [if_pos rfl] at h82
            have f2' : Fr KR M M2 := fj.tr (f2.mono (fun a j q => by
              rcases q with q | ⟨q, _⟩ | ⟨q, _⟩
              · exact Or.inl q
              · exact Or.inr (Or.inl q)
              · exact Or.inr (Or.inr q)))
            refine ihk (k + 1) (by omega) M2 ⟨f2', hS2, fun p l z' o' p0 p1 l0 l1 z0 z1 o0 o1 => ?_, fun j z' o' hj1 z0 z1 o0 o1 hd' => ?_⟩
            · by_cases w : sta p l z' o' = sta (pfx f m) (lat f m) z o
              · rw [w, h82, ← w]; exact hcj p l z' o' p0 p1 l0 l1 z0 z1 o0 o1
              · rw [f2.2.2 _ _ (by unfold KS KE KA; omega)]; exact hcj p l z' o' p0 p1 l0 l1 z0 z1 o0 o1
            · by_cases w : (j : Int) = m ∧ 6 * z' + o' = k
              · have ej' : j = m := by omega
                have hz' : z' = z := by omega
                have ho' : o' = o := by omega
                subst ej' hz' ho'
                exact ht2
              · have hpj := pfx_ok hR j hj1
                have hlj := lat_ok hR hj1
                have hst : sta (pfx f j) (lat f j) z' o' ≠ sta (pfx f m) (lat f m) z o := by
                  intro w2
                  obtain ⟨w3, -, w5, w6⟩ := sta_inj hlj ⟨z0, z1⟩ ⟨o0, o1⟩ hli hz ho w2
                  have : j = m := by
                    by_cases q : j = m
                    · exact q
                    · exact absurd w3 (pfx_ne hR hj1 (by omega) q)
                  exact w ⟨by omega, by omega⟩
                obtain ⟨t1, t2⟩ := hj j z' o' hj1 z0 z1 o0 o1 (by omega)
                have q1 : ∀ i : Int, 0 ≤ i → i < 14 → rd M2 81 (14 * sta (pfx f j) (lat f j) z' o' + i) = rd Mj 81 (14 * sta (pfx f j) (lat f j) z' o' + i) := fun i i0 i1 => f2.2.2 _ _ (by unfold KS KE KA; omega)
                exact ⟨fun i i0 i1 => by rw [q1 i i0 i1]; exact t1 i i0 i1, (vl_congr (fun i i0 i1 => q1 i i0 i1)).trans t2⟩
      refine B_X12_reckonRow_34 (by omega) hD.2.1 ⟨⟨by omega, by omega⟩, fun q => by omega, fun _ => ⟨fun q => ?_, fun q => ?_⟩⟩
      · obtain ⟨ok, ef⟩ := hokf Mk hD.1 ((m : Int) - 1) (by omega) (by omega)
        rw [show (0 : Int) + (m : Int) - 1 = 0 + ((m : Int) - 1) by omega]
        refine ⟨ok, fun v3 e3 => ?_⟩
        have el : lat f m = v3 := by rw [e3, ef]; unfold lat; rw [if_neg (by omega)]
        rw [← el]
        exact kk 36 0 rfl Mk hD
      · have hm0 : m = 0 := by omega
        subst hm0
        exact kk 36 0 rfl Mk hD
  have k6 : ∀ m i : Nat, (i : Int) + m = n → X G Y_X12_reckonRow d 0 0 6 [vA 67, vA a, vI 0, vI n, vI (pfx f i), vI i, vU, vU] [] M Q := by
    intro m
    induction m with
    | zero =>
      intro i hi
      refine B_X12_reckonRow_6 (by omega) hS ⟨⟨by omega, by omega⟩, ⟨by omega, by omega⟩, fun _ => ?_, fun q => by omega⟩
      have := k34 (i + 1) (by omega) M (pfx f i) (fun _ => rfl) ⟨Fr.rf, hS, hc, fun j z o hj1 z0 z1 o0 o1 hd' => by omega⟩
      rw [show (((i + 1 : Nat) : Int) - 1) = n by omega] at this
      exact this
    | succ m ih =>
      intro i hi
      obtain ⟨ok, ef⟩ := hf i (by omega) (by omega)
      refine B_X12_reckonRow_6 (by omega) hS ⟨⟨by omega, by omega⟩, ⟨by omega, by omega⟩, fun q => by omega, fun _ => ⟨ok, fun v4 e4 => ?_⟩⟩
      rw [ef] at e4
      rw [e4]
      exact ih (i + 1) (by omega)
  exact k6 n.toNat 0 (by omega)
end RV
