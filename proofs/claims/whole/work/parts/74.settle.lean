/-! ===== a place is settled ===== -/
theorem VV2_rng {r : Int → Int} {sm : Int → LSm} {g : Int} {can : CAN} (hc : canOk can) (hV : RS r) {p l z o : Int} (hp : 0 ≤ p ∧ p < 32) : -1 ≤ (VV r sm g can p l z o).2 ∧ (VV r sm g can p l z o).2 < 5 := by
  have n0 := hV.1
  have n5 := hV.2.1
  rw [VV_eq hc hp]
  split
  · show -1 ≤ (-1 : Int) ∧ (-1 : Int) < 5
    exact ⟨by decide, by decide⟩
  · have := bstF_rng (can := can p l z o) (w := fun s => Wf r sm g (fun p l z o => (VV r sm g can p l z o).1) s p l z o) (n := (r 0).toNat)
    omega
section ZS
variable {G : GG} {r : Int → Int} {sm : Int → LSm} {t g c : Int} {can : CAN} {Rch : Int → Int → Int → Int → Prop} {I : MM → Prop}
/-- the mark is written -/
theorem tSp.mark {M Mk M3 : MM} {p l z o : Int} (hx : tCx G r sm t g c can Rch I) (hn : NS p l) (hzo : RZ z o) (sk : tSp r sm t g c can I (pop p) M Mk) (mk : ¬ tMk Mk t p l z o) (nk : nrm (rd Mk (t + 1)) (seg p l z o) (limF (pop p).toNat).toNat) (vk : vl (rd Mk (t + 1)) (seg p l z o) (limF (pop p).toNat).toNat = (VV r sm g can p l z o).1)
    (cl : z + o ≠ 0 → ∀ s a b : Int, can p l z o s = true → r (12 + 3 * s) ≠ 1 → (g = 6 ∨ canB r (sb p s) ≠ 0) → spt z (chn r sm 0 s p l z o) a → spt o (chn r sm 1 s p l z o) b → tMk Mk t (sb p s) s a b)
    (e3 : M3 = wr Mk (t + 2) (slo p l z o) (iOr (iShl (rd Mk t 9) 3) ((VV r sm g can p l z o).2 + 1))) (hS3 : Sh M3) : tSp r sm t g c can I (pop p) M M3 ∧ tMk M3 t p l z o := by
  have ht := hx.1
  have hV := sk.2.1.2.1.1.2.1
  have tbk := sk.2.1.2.2.2.1
  have h1 := tbk.1
  have h2 := tbk.2.1
  have hcan := hx.2.2.2.1
  have hx9 := VV2_rng (sm := sm) (g := g) hcan.1 hV (l := l) (z := z) (o := o) hn.1
  generalize eV : (VV r sm g can p l z o).2 = x9 at *
  have em : iOr (iShl (rd Mk t 9) 3) (x9 + 1) = 8 * rd Mk t 9 + x9 + 1 := by
    rw [iShl_3 (by omega) (by omega), iOr_add (i := 3) (rd Mk t 9) (by omega) (by omega) (by omega) (by omega) (by omega) (by omega)]; omega
  rw [em] at e3
  have r3 : ∀ a j, ¬ (a = t + 2 ∧ j = slo p l z o) → rd M3 a j = rd Mk a j := fun a j w => by rw [e3, rd_wr, if_neg w]
  have r3s : rd M3 (t + 2) (slo p l z o) = 8 * rd Mk t 9 + x9 + 1 := by rw [e3, rd_wr, if_pos ⟨rfl, rfl⟩]
  have r9 : ∀ j, rd M3 t j = rd Mk t j := fun j => r3 _ _ (by omega)
  have r1 : rd M3 (t + 1) = rd Mk (t + 1) := funext fun j => r3 _ _ (by omega)
  have mk3 : tMk M3 t p l z o := by unfold tMk; rw [r3s, r9]; omega
  have oth : ∀ p' l' z' o' : Int, NS p' l' → RZ z' o' → ¬ (p' = p ∧ l' = l ∧ z' = z ∧ o' = o) → rd M3 (t + 2) (slo p' l' z' o') = rd Mk (t + 2) (slo p' l' z' o') := fun p' l' z' o' hn' hz' hne => r3 _ _ (fun w => hne (slo_inj hn' hz'.1 hz'.2 hn hzo.1 hzo.2 w.2))
  have mo : ∀ p' l' z' o' : Int, NS p' l' → RZ z' o' → tMk Mk t p' l' z' o' → tMk M3 t p' l' z' o' := by
    intro p' l' z' o' hn' hz' w
    by_cases e : p' = p ∧ l' = l ∧ z' = z ∧ o' = o
    · rw [e.1, e.2.1, e.2.2.1, e.2.2.2]; exact mk3
    · unfold tMk at w ⊢; rw [oth p' l' z' o' hn' hz' e, r9]; exact w
  have om : ∀ p' l' z' o' : Int, NS p' l' → RZ z' o' → ¬ (p' = p ∧ l' = l ∧ z' = z ∧ o' = o) → tMk M3 t p' l' z' o' → tMk Mk t p' l' z' o' := by
    intro p' l' z' o' hn' hz' e w
    unfold tMk at w ⊢; rw [oth p' l' z' o' hn' hz' e, r9] at w; exact w
  have f3 : Fr (KZ t) M M3 := by rw [e3]; exact sk.1.wr (Or.inr (Or.inr (Or.inr rfl)))
  have f3k : Fr (KZ t) Mk M3 := by rw [e3]; exact Fr.rf.wr (Or.inr (Or.inr (Or.inr rfl)))
  have hC3 : CIn M3 r sm := sk.2.1.2.1.fr (K := fun a j => a = t + 2) (by rw [e3]; exact Fr.rf.wr rfl) (fun a j w => by omega)
  refine ⟨⟨f3, ⟨hS3, hC3, ⟨by rw [r9]; exact sk.2.1.2.2.1.1, by rw [r9]; exact sk.2.1.2.2.1.2.1, hx.2.2.2.2.2.1 Mk M3 sk.2.1.2.2.1.2.2 f3k⟩, ⟨by rw [r9]; exact h1, by rw [r9]; exact h2, fun i i0 i1 => ?_⟩, fun p' l' z' o' hn' hz' w => ?_, fun p' l' z' o' s a b h1 h2 h3 h4 h5 h6 h7 h8 h9 => ?_⟩, fun p' l' z' o' hn' hz' w => ⟨fun i i0 i1 => ?_, ?_⟩, fun p' l' z' o' hn' hz' w => ?_⟩, mk3⟩
  · rw [r9]
    by_cases e : i = slo p l z o
    · rw [e, r3s]; omega
    · rw [r3 _ _ (fun w => e w.2)]; exact tbk.2.2 i i0 i1
  · by_cases e : p' = p ∧ l' = l ∧ z' = z ∧ o' = o
    · rw [e.1, e.2.1, e.2.2.1, e.2.2.2]
      exact ⟨by rw [r1]; exact nk, by rw [r1]; exact vk, by rw [r3s, r9, eV]⟩
    · have hs := sk.2.1.2.2.2.2.1 p' l' z' o' hn' hz' (om p' l' z' o' hn' hz' e w)
      exact ⟨by rw [r1]; exact hs.1, by rw [r1]; exact hs.2.1, by rw [oth p' l' z' o' hn' hz' e, r9]; exact hs.2.2⟩
  · have hs := hcan.1 p' l' z' o' s h5
    have hNS' := (NS_next h1 ⟨hs.1, hs.2.1⟩ hs.2.2).1
    refine mo _ _ _ _ hNS' ⟨⟨h8.1, by have := h8.2.1; have := h2.1.2; omega⟩, ⟨h9.1, by have := h9.2.1; have := h2.2.2; omega⟩⟩ ?_
    by_cases e : p' = p ∧ l' = l ∧ z' = z ∧ o' = o
    · obtain ⟨e1, e2, e3, e4⟩ := e
      rw [e1, e2, e3, e4] at h5 h8 h9
      rw [e1] at h7 ⊢
      rw [e3, e4] at h3
      exact cl h3 s a b h5 h6 h7 h8 h9
    · exact sk.2.1.2.2.2.2.2 p' l' z' o' s a b h1 h2 h3 (om p' l' z' o' h1 h2 e h4) h5 h6 h7 h8 h9
  · rw [r1]; exact (sk.2.2.1 p' l' z' o' hn' hz' w).1 i i0 i1
  · rw [oth p' l' z' o' hn' hz' (fun e => by rw [e.1] at w; omega)]; exact (sk.2.2.1 p' l' z' o' hn' hz' w).2
  · exact mo p' l' z' o' hn' hz' (sk.2.2.2 p' l' z' o' hn' hz' w)
theorem Ar.le {M : MM} {a at' : Int} {n m : Nat} (h : Ar M a at' n) (hm : m ≤ n) : Ar M a at' m := ⟨h.1, h.2.1, h.2.2.1, h.2.2.2.1, by have := h.2.2.2.2.1; omega, h.2.2.2.2.2⟩
theorem T_settle_step {n : Nat} (hx : tCx G r sm t g c can Rch I) (hPrev : ∀ m, m < n → tSet G r sm t g c can Rch I m) : tSet G r sm t g c can Rch I n := by
  intro M Q d p l z o hn hzo hnn hd hM hR hgo h
  have ht := hx.1
  have hg := hx.2.1
  have hc4 := hx.2.2.1
  have hcan := hx.2.2.2.1
  have hV := hM.2.1.1.2.1
  have n0 := hV.1
  have n5 := hV.2.1
  have hz := hzo.1
  have ho := hzo.2
  have hq := pop_le hn.1.1 hn.1.2
  have hr := nod_rng hn
  have hsl := slo_rng hn hz ho
  have hnd := node_ok hn
  have hsg := seg_in (p := p) (l := l) hz ho
  have hL := limF_pos (pop p).toNat
  have hB := bnd_lim hq.1 hq.2
  have tb := hM.2.2.2.1
  have t1 := tb.1
  have t2 := tb.2.1
  have hbs := tb.2.2 (slo p l z o) hsl.1 hsl.2
  have e28 : rd M 28 (((p * 5) + l) + 1) = gt fqL (nod p l) := (hM.2.1.2.1 _ hr.1 hr.2).2.2
  have hVV := VV_eq (r := r) (sm := sm) (g := g) hcan.1 (p := p) (l := l) (z := z) (o := o) hn.1
  have hsz := sLt_1 ht hM.1
  have own : ∀ Mk, tSp r sm t g c can I (pop p) M Mk → Ar Mk (t + 1) (seg p l z o) (limF (pop p).toNat).toNat := fun Mk sk => by
    have O1 := sOt_1 ht sk.2.1.1
    have hs2 := sLt_1 ht sk.2.1.1
    exact ⟨O1.1, O1.2.1, O1.2.2, by omega, by rw [hs2]; omega, by rw [hs2]; decide⟩
  refine C_X9_settle (B_X9_settle_0 (by omega) ht hM.1 ⟨hr.1, hr.2, fun v3 e3 => ?_⟩)
  rw [e28] at e3
  have e3' : v3 = slo p l z o := e3
  rw [e3', iShr_3 ⟨by omega, by omega⟩]
  refine ⟨hsl.1, hsl.2, ⟨by omega, by omega⟩, ⟨by omega, by omega⟩, fun y => ?_, fun y => ?_⟩
  · refine h M (tSp.rf hM) ?_
    rcases y with y | y
    · exact y
    · omega
  have hm : ¬ tMk M t p l z o := fun w => y (Or.inl w)
  refine T_X9_limbAt ht hM.1 hM.2.1.2.1 hn (by omega) ?_
  show Sh M ∧ _
  refine ⟨hM.1, hq.1, by omega, fun v22 e22 => ?_⟩
  rw [e22]
  refine ⟨⟨sOt_1 ht hM.1, by rw [hsz]; decide, by rw [hsz]; decide⟩, ⟨by omega, by omega, by rw [hsz]; omega⟩, fun M25 e25 hS25 => ?_⟩
  obtain ⟨c25, z25⟩ := e25
  rw [show seg p l z o + limF (pop p).toNat - seg p l z o = limF (pop p).toNat by omega] at c25
  obtain ⟨s25, m25⟩ := (tSp.rf hM).own hx hn hzo hm c25
  have z25' : ∀ i : Int, 0 ≤ i → i < limF (pop p).toNat → rd M25 (t + 1) (seg p l z o + i) = 0 := fun i i0 i1 => z25 _ (by omega) (by omega)
  clear z25 c25 e22 e3
  -- the mark
  have mark : ∀ (Mk : MM) (x9 : Int), tSp r sm t g c can I (pop p) M Mk → ¬ tMk Mk t p l z o → nrm (rd Mk (t + 1)) (seg p l z o) (limF (pop p).toNat).toNat → vl (rd Mk (t + 1)) (seg p l z o) (limF (pop p).toNat).toNat = (VV r sm g can p l z o).1 → x9 = (VV r sm g can p l z o).2 → (z + o ≠ 0 → ∀ s a b : Int, can p l z o s = true → r (12 + 3 * s) ≠ 1 → (g = 6 ∨ canB r (sb p s) ≠ 0) → spt z (chn r sm 0 s p l z o) a → spt o (chn r sm 1 s p l z o) b → tMk Mk t (sb p s) s a b) →
      X G Y_X9_settle d 0 0 299 [vA t, vI p, vI l, vI z, vI o, vI (pop p), vI (slo p l z o), vI (seg p l z o), vI (limF (pop p).toNat), vI x9, vU, vU, vU, vU] [] Mk Q := by
    intro Mk x9 sk mk nk vk ex cl
    refine B_X9_settle_299 (by omega) ht sk.2.1.1 ⟨hsl.1, hsl.2, fun M3 e3 hS3 => ?_⟩
    rw [ex] at e3
    obtain ⟨s3, m3⟩ := sk.mark hx hn hzo mk nk vk cl e3 hS3
    exact h M3 s3 m3
  -- a value is copied
  have copy : ∀ (Mk M1 : MM) (v : Int), tSp r sm t g c can I (pop p) M Mk → ¬ tMk Mk t p l z o → nrm (rd Mk (t + 3)) 0 14 → vl (rd Mk (t + 3)) 0 14 = v → v < Bp (limF (pop p).toNat).toNat → M1 = cpM Mk (t + 3) 0 (t + 1) (seg p l z o) (limF (pop p).toNat) →
      tSp r sm t g c can I (pop p) M M1 ∧ ¬ tMk M1 t p l z o ∧ nrm (rd M1 (t + 1)) (seg p l z o) (limF (pop p).toNat).toNat ∧ vl (rd M1 (t + 1)) (seg p l z o) (limF (pop p).toNat).toNat = v ∧ ∀ a j, a ≠ t + 1 → rd M1 a j = rd Mk a j := by
    intro Mk M1 v sk mk n3 v3 hv e1
    have ch : Ch Mk M1 (t + 1) (seg p l z o) (limF (pop p).toNat).toNat := by
      rw [e1]
      refine ⟨rfl, fun _ => rfl, fun b j w => ?_⟩
      rw [rd_cp, if_neg (by omega)]
    obtain ⟨s1, m1⟩ := sk.own hx hn hzo mk ch
    have r1 : ∀ i : Int, 0 ≤ i → i < (limF (pop p).toNat).toNat → rd M1 (t + 1) (seg p l z o + i) = rd Mk (t + 3) (0 + i) := fun i i0 i1 => by
      rw [e1, rd_cp, if_pos ⟨rfl, by omega, by omega⟩]
      congr 1; omega
    refine ⟨s1, m1, fun i i0 i1 => by rw [r1 i i0 i1]; exact n3 i i0 (by omega), ?_, fun a j w => ch.2.2 _ _ (fun y => w y.1)⟩
    rw [vl_congr r1, ← vl_ext (f := rd Mk (t + 3)) (a := 0) (n := (limF (pop p).toNat).toNat) (m := 14) (by omega) (nrm_high (by omega) n3 (by rw [v3]; exact hv))]
    exact v3
  -- the scenes that are tried
  have loop : ∀ (Ms : MM) (x10 x11 x12 : Int), tSp r sm t g c can I (pop p) M Ms → ¬ tMk Ms t p l z o → (∀ i : Int, 0 ≤ i → i < limF (pop p).toNat → rd Ms (t + 1) (seg p l z o + i) = 0) → z + o ≠ 0 → (0 ≤ x12 ∧ x12 < 32) → (∀ s : Int, 0 ≤ s → s < r 0 → (bt x12 s = 1 ↔ can p l z o s = true)) →
      X G Y_X9_settle d 0 0 213 [vA t, vI p, vI l, vI z, vI o, vI (pop p), vI (slo p l z o), vI (seg p l z o), vI (limF (pop p).toNat), vI (-1), vI x10, vI x11, vI x12, vI 0] [] Ms Q := by
    intro Ms x10 x11 x12 ss ms zs hne h12 hbit
    rw [if_neg hne] at hVV
    generalize hw : (fun s => Wf r sm g (fun p l z o => (VV r sm g can p l z o).1) s p l z o) = w at hVV
    have key : ∀ m k : Nat, (k : Int) + m = r 0 → ∀ Mk, tSp r sm t g c can I (pop p) M Mk → ¬ tMk Mk t p l z o → nrm (rd Mk (t + 1)) (seg p l z o) (limF (pop p).toNat).toNat → vl (rd Mk (t + 1)) (seg p l z o) (limF (pop p).toNat).toNat = (bstF (can p l z o) w k).1 →
        (∀ s a b : Int, s < k → can p l z o s = true → r (12 + 3 * s) ≠ 1 → (g = 6 ∨ canB r (sb p s) ≠ 0) → spt z (chn r sm 0 s p l z o) a → spt o (chn r sm 1 s p l z o) b → tMk Mk t (sb p s) s a b) →
        X G Y_X9_settle d 0 0 213 [vA t, vI p, vI l, vI z, vI o, vI (pop p), vI (slo p l z o), vI (seg p l z o), vI (limF (pop p).toNat), vI (bstF (can p l z o) w k).2, vI x10, vI x11, vI x12, vI k] [] Mk Q := by
      intro m
      induction m with
      | zero =>
        intro k ek Mk sk mk nk vk ck
        have e0 : rd Mk 1 0 = r 0 := sk.2.1.2.1.1.1.1
        refine B_X9_settle_213 (by omega) ht sk.2.1.1 ?_
        rw [e0]
        refine ⟨⟨by omega, by omega⟩, ⟨by omega, by omega⟩, fun _ => ?_, fun q => by omega⟩
        rw [show (r 0).toNat = k by omega] at hVV
        refine mark Mk _ sk mk nk (by rw [vk, hVV]) (by rw [hVV]) (fun _ s a b q1 q2 q3 q4 q5 => ck s a b ?_ q1 q2 q3 q4 q5)
        have := hcan.2 p l z o s q1
        omega
      | succ m ih =>
        intro k ek Mk sk mk nk vk ck
        have e0 : rd Mk 1 0 = r 0 := sk.2.1.2.1.1.1.1
        have hbr := bstF_rng (can := can p l z o) (w := w) (n := k)
        refine B_X9_settle_213 (by omega) ht sk.2.1.1 ?_
        rw [e0]
        refine ⟨⟨by omega, by omega⟩, ⟨by omega, by omega⟩, fun q => by omega, fun _ => ⟨fun q => ?_, fun q => ?_⟩⟩
        · have hb1 : bt x12 k = 1 := by
            rcases bt01 h12.1 h12.2 (show 0 ≤ (k : Int) by omega) (show (k : Int) < 5 by omega) with y | y
            · exact absurd y q
            · exact y
          have hcn : can p l z o k = true := (hbit k (by omega) (by omega)).mp hb1
          have hs := hcan.1 p l z o k hcn
          have hp5 := pop5 hn.1 ⟨hs.1, hs.2.1⟩ hs.2.2
          refine T_X9_bring (n := (5 - (pop p + 1)).toNat) hx (hPrev _ (by omega)) hn hzo hne hcn rfl (by omega) sk.2.1 hR (fun M3 s3 n3 v3 k3 => ?_)
          have vw : vl (rd M3 (t + 3)) 0 14 = w k := by rw [v3, ← hw]
          have hWk : w k < Bp (limF (pop p).toNat).toNat := by
            have := Wf_ok (sm := sm) hcan.1 hV hg.1 hn.1 hz ho hcn
            rw [← hw]; dsimp only; omega
          have lw := s3.2.2.1 p l z o hn hzo (by omega)
          have e9 : rd M3 t 9 = rd Mk t 9 := s3.1.2.2 _ _ (by unfold KZ KTd KX; omega)
          have m3 : ¬ tMk M3 t p l z o := by unfold tMk at mk ⊢; rw [lw.2, e9]; exact mk
          have s3' : tSp r sm t g c can I (pop p) M M3 := sk.tr (s3.lo (by omega))
          have n3' : nrm (rd M3 (t + 1)) (seg p l z o) (limF (pop p).toNat).toNat := fun i i0 i1 => by rw [lw.1 i i0 (by omega)]; exact nk i i0 i1
          have v3' : vl (rd M3 (t + 1)) (seg p l z o) (limF (pop p).toNat).toNat = (bstF (can p l z o) w k).1 := by rw [vl_congr (g := rd Mk (t + 1)) (b := seg p l z o) (fun i i0 i1 => lw.1 i i0 (by omega))]; exact vk
          have v3l : vl (rd M3 (t + 3)) 0 (limF (pop p).toNat).toNat = w k := by
            rw [← vl_ext (f := rd M3 (t + 3)) (a := 0) (n := (limF (pop p).toNat).toNat) (m := 14) (by omega) (nrm_high (by omega) n3 (by rw [vw]; exact hWk))]; exact vw
          have ck3 : ∀ s a b : Int, s < (k + 1 : Nat) → can p l z o s = true → r (12 + 3 * s) ≠ 1 → (g = 6 ∨ canB r (sb p s) ≠ 0) → spt z (chn r sm 0 s p l z o) a → spt o (chn r sm 1 s p l z o) b → tMk M3 t (sb p s) s a b := by
            intro s a b q1 q2 q3 q4 q5 q6
            by_cases e : s = k
            · rw [e] at q3 q4 q5 q6 ⊢
              exact k3 q3 q4 a b q5 q6
            · have hs' := hcan.1 p l z o s q2
              refine s3.2.2.2 _ _ _ _ (NS_next hn ⟨hs'.1, hs'.2.1⟩ hs'.2.2).1 ⟨⟨q5.1, by have := q5.2.1; omega⟩, ⟨q6.1, by have := q6.2.1; omega⟩⟩ (ck s a b (by omega) q2 q3 q4 q5 q6)
          have take : bstF (can p l z o) w (k + 1) = (w k, (k : Int)) → X G Y_X9_settle d 0 0 273 [vA t, vI p, vI l, vI z, vI o, vI (pop p), vI (slo p l z o), vI (seg p l z o), vI (limF (pop p).toNat), vI (bstF (can p l z o) w k).2, vI x10, vI x11, vI x12, vI k] [] M3 Q := by
            intro eb
            have hS3 := s3'.2.1.1
            refine B_X9_settle_273 (by omega) ht hS3 ⟨sOt_3 ht hS3, sOt_1 ht hS3, by omega, by omega, by rw [sLt_3 ht hS3]; omega, by rw [sLt_1 ht hS3]; omega, fun M1 e1 => ?_⟩
            obtain ⟨s1, m1, n1, v1, o1⟩ := copy M3 M1 (w k) s3' m3 n3 vw hWk e1
            have := ih (k + 1) (by omega) M1 s1 m1 n1 (by rw [v1, eb]) (fun s a b q1 q2 q3 q4 q5 q6 => by
              have := ck3 s a b q1 q2 q3 q4 q5 q6
              unfold tMk at this ⊢
              rw [o1 _ _ (by omega), o1 _ _ (by omega)]; exact this)
            rw [eb] at this
            exact this
          show Sh M3 ∧ _
          refine ⟨s3'.2.1.1, ⟨by omega, by omega⟩, fun y => take ?_, fun y => ⟨⟨by omega, by omega⟩, (arT ht s3'.2.1.1 (Or.inl rfl)).le (by omega), own M3 s3', n3.mono (by omega), n3', cmpI_R, ?_⟩⟩
          · simp only [bstF]; rw [hcn, y]; simp
          · rw [v3l, v3']
            refine ⟨fun y2 => ?_, fun y2 => take ?_⟩
            · have eb : bstF (can p l z o) w (k + 1) = bstF (can p l z o) w k := by
                have : ¬ (bstF (can p l z o) w k).1 < w k := fun y3 => by have := cmpI_pos.mpr y3; omega
                simp [bstF, y, this]
              have := ih (k + 1) (by omega) M3 s3' m3 n3' (by rw [v3', eb]) ck3
              rw [eb] at this
              exact this
            · have := cmpI_pos.mp y2
              simp [bstF, hcn, this]
        · have hcf : can p l z o k = false := by
            cases hcn : can p l z o k with
            | false => rfl
            | true =>
              have := (hbit k (by omega) (by omega)).mpr hcn
              rw [show bt x12 k = 0 from q] at this
              exact absurd this (by decide)
          have eb : bstF (can p l z o) w (k + 1) = bstF (can p l z o) w k := by simp [bstF, hcf]
          have := ih (k + 1) (by omega) Mk sk mk nk (by rw [vk, eb]) (fun s a b q1 q2 q3 q4 q5 q6 => by
            by_cases e : s = k
            · rw [e, hcf] at q2; exact absurd q2 (by decide)
            · exact ck s a b (by omega) q2 q3 q4 q5 q6)
          rw [eb] at this
          exact this
    have := key (r 0).toNat 0 (by omega) Ms ss ms (nrm0 (fun i i0 i1 => zs i i0 (by omega))) (vl_zero (fun i i0 i1 => zs i i0 (by omega))) (fun s a b q1 q2 => by have := (hcan.1 p l z o s q2).1; omega)
    exact this
  have g25 : rd M25 t 11 = g := s25.2.1.2.2.1.1
  have c25 : rd M25 t 10 = c := s25.2.1.2.2.1.2.1
  rw [g25, c25]
  have all : can = cBs r → z + o ≠ 0 → X G Y_X9_settle d 0 0 144 [vA t, vI p, vI l, vI z, vI o, vI (pop p), vI (slo p l z o), vI (seg p l z o), vI (limF (pop p).toNat), vI (-1), vU, vU, vU, vU] [] M25 Q := by
    intro ec hne
    have hcb := canB_ok hV p
    refine B_X9_settle_144 (r := r) (by omega) ht hS25 ⟨s25.2.1.2.1.1.1, hV, hn.1, fun v4 e4 => ?_⟩
    rw [e4]
    refine loop M25 1 (-1) (canB r p) s25 m25 z25' hne ⟨hcb.1, hcb.2.1⟩ (fun s s0 s1 => ?_)
    rw [ec]
    exact (cBs_iff hV hn.1 ⟨s0, by omega⟩).symm
  refine ⟨⟨by omega, by omega⟩, fun hne => ⟨fun y => ?_, fun y => ⟨⟨by omega, by omega⟩, fun y2 => ?_, fun y2 => ?_⟩⟩, fun hze => ⟨⟨by omega, by omega⟩, fun y => ?_, fun y => ?_⟩⟩
  · rcases hx.2.2.2.2.2.2.2 with ⟨_, ec⟩ | ⟨e, _⟩
    · exact all ec hne
    · rw [e] at y; exact absurd y (by decide)
  · rcases hx.2.2.2.2.2.2.2 with ⟨w, ec⟩ | ⟨e, _, chf, ec, hcr, hch⟩
    · rcases w with w | w
      · exact absurd w y
      · exact absurd w y2
    · rw [e]
      refine ⟨sO_30 hS25, ?_⟩
      have hcr := hcr p l z o hn hzo
      refine hch M25 _ (d - 1) p l z o (by omega) hS25 s25.2.1.2.1 s25.2.1.2.2.1.2.2 hn hzo hne hR (fun M31 f31 hC31 hS31 => ?_)
      show Sh M31 ∧ _
      have s31 : tSp r sm t g c can I (pop p) M25 M31 := tSp.small hx s25.2.1 f31 (fun a j w => Or.inl w) hS31 hC31
      have e2 : ∀ j, rd M31 (t + 2) j = rd M25 (t + 2) j := fun j => f31.2.2 _ _ (by unfold KTd; omega)
      have e9 : rd M31 t 9 = rd M25 t 9 := f31.2.2 _ _ (by unfold KTd; omega)
      refine ⟨hS31, ⟨by omega, by omega⟩, fun v40 e40 => ?_⟩
      refine loop M31 0 _ v40 (s25.tr s31) (by unfold tMk at m25 ⊢; rw [e2, e9]; exact m25) (fun i i0 i1 => by rw [f31.2.2 _ _ (by unfold KTd; omega)]; exact z25' i i0 i1) hne ?_ (fun s s0 s1 => ?_)
      · rw [e40]
        split
        · rename_i y3
          exact finI (P := fun x => 0 ≤ iShl 1 x ∧ iShl 1 x < 32) 5 (by decide +kernel) (show 0 ≤ chf p l z o by omega) (by omega)
        · exact ⟨by decide, by decide⟩
      · rw [ec, e40]
        unfold cF
        simp only [Bool.and_eq_true, decide_eq_true_eq]
        by_cases y3 : chf p l z o = -1
        · rw [if_neg (show ¬ chf p l z o ≠ -1 from fun y4 => y4 y3), bt_0 ⟨s0, by omega⟩]
          exact ⟨fun y4 => absurd y4 (by decide), fun y4 => by have := y4.1; omega⟩
        · rw [if_pos y3, bt_shl ⟨by omega, by omega⟩ ⟨s0, by omega⟩]
          have hcs := canB_s hV hn.1 ⟨show 0 ≤ chf p l z o by omega, hcr.2.1⟩ (hcr.2.2 y3)
          constructor
          · intro y4; rw [y4]; exact ⟨rfl, ⟨by omega, by omega⟩, hcs.1, hcs.2⟩
          · intro y4; exact y4.1
  · rcases hx.2.2.2.2.2.2.2 with ⟨_, ec⟩ | ⟨_, e, _⟩
    · exact all ec hne
    · exact absurd y2 e
  · have eg : gon r g p l = 0 := by
      unfold gon
      rw [if_neg]
      intro w
      rcases y with y | y
      · exact y w.1
      · rcases hn.2.2 with q | q
        · exact w.2.1 q.1
        · have := finI (P := fun p => pop p ≤ 0 → p = 0) 32 (by decide +kernel) hn.1.1 hn.1.2 y
          have q2 := q.2
          rw [this, bt_0 ⟨by have := hn.2.1; omega, hn.2.1.2⟩] at q2
          exact absurd q2 (by decide)
    rw [if_pos hze] at hVV
    exact mark M25 (-1) s25 m25 (nrm0 (fun i i0 i1 => z25' i i0 (by omega))) (by rw [hVV, vl_zero (fun i i0 i1 => z25' i i0 (by omega))]; exact eg.symm) (by rw [hVV]) (fun w => absurd hze w)
  · have y1 : g = 6 := by omega
    have y2 : 0 < pop p := by omega
    have eg : gon r g p l = sc (pop p) := by
      unfold gon
      have hl : l ≠ -1 := fun q => by
        rcases hn.2.2 with w | w
        · have := w.2
          rw [this] at y2
          exact absurd y2 (by decide +kernel)
        · exact w.1 q
      rcases hgo y1 with w | w
      · exact absurd w hl
      · rw [if_pos ⟨y1, hl, w⟩]
    rw [if_pos hze] at hVV
    refine T_X9_startSum ht hS25 hq ⟨by decide, by decide⟩ (by omega) (fun M49 e49 hS49 => ?_)
    obtain ⟨c49, n49, v49⟩ := e49
    show Sh M49 ∧ _
    have f49 : Fr (KX t) M25 M49 := Fr.ch c49 (fun j _ _ => Or.inl rfl)
    have hC49 : CIn M49 r sm := s25.2.1.2.1.fr f49 (fun a j w => by unfold KX at w; omega)
    have s49 : tSp r sm t g c can I (pop p) M25 M49 := tSp.small hx s25.2.1 f49 (fun a j w => Or.inr w) hS49 hC49
    have m49 : ¬ tMk M49 t p l z o := by
      unfold tMk at m25 ⊢; rw [f49.2.2 _ _ (by unfold KX; omega), f49.2.2 _ _ (by unfold KX; omega)]; exact m25
    refine ⟨hS49, sOt_3 ht hS49, sOt_1 ht hS49, by omega, by omega, by rw [sLt_3 ht hS49]; omega, by rw [sLt_1 ht hS49]; omega, fun M50 e50 => ?_⟩
    have hb : sc (pop p) < Bp (limF (pop p).toNat).toNat := by
      have hs := sc_pos (pop p)
      have : 1 * sc (pop p) ≤ ((5 - pop p) * 58500 + 1) * sc (pop p) := Int.mul_le_mul_of_nonneg_right (by omega) (by omega)
      unfold bnd at hB
      omega
    obtain ⟨s1, m1, n1, v1, o1⟩ := copy M49 M50 (sc (pop p)) (s25.tr s49) m49 n49 (by rw [v49, Int.one_mul]) hb e50
    exact mark M50 (-1) s1 m1 n1 (by rw [v1, hVV]; exact eg.symm) (by rw [hVV]) (fun w => absurd hze w)
theorem T_settle (hx : tCx G r sm t g c can Rch I) (n : Nat) : tSet G r sm t g c can Rch I n := by
  induction n using Nat.strongRecOn with
  | _ n ih => exact T_settle_step hx ih
end ZS
