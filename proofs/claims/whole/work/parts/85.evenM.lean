/-! ===== an evening in the model ===== -/
def MCh (r : Int → Int) (sm : Int → LSm) (c : Int) (M : MM) : Prop := ((c = 1 ∨ c = 2) → ∀ p l z o : Int, VS (r 0) p l → RZ z o → rd M 82 (sta p l z o) = chC r sm c p l z o) ∧ (c = 3 → rd M 67 43 = (fixL r sm).length ∧ ∀ i : Int, 0 ≤ i → i < (fixL r sm).length → rd M 89 i = rowf (fixL r sm) i)
theorem MCh.fr {r : Int → Int} {sm : Int → LSm} {c : Int} {M M' : MM} {K : Int → Int → Prop} (h : MCh r sm c M) (f : Fr K M M') (hK : ∀ a j, K a j → a ≠ 82 ∧ a ≠ 89 ∧ ¬ (a = 67 ∧ j = 43)) : MCh r sm c M' :=
  ⟨fun q p l z o hv hz => by rw [f.2.2 _ _ (fun w => (hK _ _ w).1 rfl)]; exact h.1 q p l z o hv hz, fun q => ⟨by rw [f.2.2 _ _ (fun w => (hK _ _ w).2.2 ⟨rfl, rfl⟩)]; exact (h.2 q).1, fun i i0 i1 => by rw [f.2.2 _ _ (fun w => (hK _ _ w).2.1 rfl)]; exact (h.2 q).2 i i0 i1⟩⟩
theorem VS_NS {n p l : Int} (h : VS n p l) (hn : 0 ≤ n ∧ n ≤ 5) : NS p l := by
  have := VS_rng h hn
  exact ⟨⟨this.1, this.2.1⟩, ⟨this.2.2.1, this.2.2.2⟩, h.2.2.2.2⟩
theorem chC_R {r : Int → Int} {sm : Int → LSm} (hV : RS r) {c : Int} : chR r (chC r sm c) := by
  intro p l z o hn hz
  unfold chC
  split
  · have := nxt_rng (r := r) (bk_ok hV).1 hn.1; exact ⟨this.1, this.2, nxt_bt⟩
  · split
    · exact mst_ok hV p l z o
    · split
      · have := ahd_ok (sm := sm) hV hn.1 l z o; exact ⟨this.1, this.2.1, this.2.2.1⟩
      · have := nxt_rng (r := r) (fixL_ok sm hV).2.1.1 hn.1; exact ⟨this.1, this.2, nxt_bt⟩
section EM
variable {G : GG} {d : Nat} {M : MM} {Q : PV → MM → Prop} {r : Int → Int} {sm : Int → LSm}
theorem T_X12_play {c p l z o : Int} (hS : Sh M) (hM : MOK M sm) (er : rd M 69 = r) (hc : 0 ≤ c ∧ c ≤ 3) (hm : MCh r sm c M) (hv : VS (r 0) p l) (hz : RZ z o) (hd : 5 ≤ d) (h : Q (vI (chC r sm c p l z o)) M) : C G Y_X12_play d 0 0 [vA 67, vI c, vI p, vI l, vI z, vI o] M Q := by
  have hV : RS r := by rw [← er]; exact hM.1
  have hn := VS_NS hv ⟨hV.1, hV.2.1⟩
  refine C_X12_play (B_X12_play_0 (by omega) hS ⟨⟨by omega, by omega⟩, fun q0 => ⟨fun q3 => ?_, fun q3 => ?_⟩, fun q0 => ?_⟩)
  · have est : (((((((p * 6) + l) + 1) * 6) + z) * 6) + o) = sta p l z o := rfl
    have hst : 0 ≤ sta p l z o ∧ sta p l z o < 6912 := by
      obtain ⟨⟨a, b⟩, ⟨e, f⟩, _⟩ := hn
      obtain ⟨⟨z0, z1⟩, o0, o1⟩ := hz
      unfold sta; omega
    rw [est, hm.1 (by omega) p l z o hv hz]
    exact ⟨hst.1, hst.2, h⟩
  · have hf := (fixL_ok sm hV).2.1
    obtain ⟨e43, e89⟩ := hm.2 q3
    have hl := hf.2.1
    rw [e43]
    refine T_X12_nextOf (f := rowf (fixL r sm)) hS (by rw [er]; exact hV) (fun i i0 i1 => ⟨?_, by rw [Int.zero_add]; exact e89 i i0 i1⟩) hf.1 ⟨by omega, by omega⟩ hn.1 (by omega) ?_
    · rw [Int.zero_add]; exact sA_89 hS i0 (by omega)
    · rw [er]
      show Sh M ∧ _
      unfold chC at h
      rw [if_neg q0, if_neg (by omega), if_neg (by omega)] at h
      exact ⟨hS, h⟩
  · have b3 := (bk_ok hV)
    rw [er]
    refine T_X12_nextOf (f := bkf r) hS (by rw [er]; exact hV) (fun i i0 i1 => ⟨sA_69 hS (by omega) (by omega), by rw [er]; rfl⟩) b3.1 b3.2 hn.1 (by omega) ?_
    rw [er]
    show Sh M ∧ _
    unfold chC at h
    rw [if_pos q0] at h
    exact ⟨hS, h⟩
theorem T_X12_goThrough {c z o s : Int} {E : EV} (hS : Sh M) (hM : MOK M sm) (er : rd M 69 = r) (hc : 0 ≤ c ∧ c ≤ 3) (hm : MCh r sm c M) (hz : RZ z o) (es : rd M 67 47 = s) (hs : 0 ≤ s ∧ s < 1000003) (hE : evF r sm (chC r sm c) 5 0 (-1) z o s = E) (hd : 8 ≤ d)
    (h : ∀ M', Fr KWm M M' → Sh M' → WMs M' E.1 → rd M' 67 50 = E.2.1 → rd M' 67 51 = E.2.2.1 → rd M' 67 47 = E.2.2.2 → Q vU M') : C G Y_X12_goThrough d 0 0 [vA 67, vI c, vI z, vI o] M Q := by
  have hV : RS r := by rw [← er]; exact hM.1
  have n05 : 0 ≤ r 0 ∧ r 0 ≤ 5 := ⟨hV.1, hV.2.1⟩
  have hch := chC_R (sm := sm) hV (c := c)
  generalize hcf : chC r sm c = ch at *
  have e69 : ∀ Mk, Fr KWm M Mk → rd Mk 69 = r := fun Mk fk => by rw [← er]; exact funext fun j => fk.2.2 _ _ (by unfold KWm KA; omega)
  have hMk : ∀ Mk, Fr KWm M Mk → MOK Mk sm := fun Mk fk => hM.fr fk (fun j q => by unfold KWm KA at q; omega)
  have hmk : ∀ Mk, Fr KWm M Mk → MCh r sm c Mk := fun Mk fk => hm.fr fk (fun a j q => by unfold KWm KA at q; omega)
  refine C_X12_goThrough (B_X12_goThrough_0 (by omega) hS fun M1 e1 hS1 M2 e2 hS2 M3 e3 hS3 => ?_)
  have over : ∀ (Mk : MM) (x4 x5 x6 x7 : Int), Sh Mk → inR (x4 + x5) → Q vU Mk → X G Y_X12_goThrough d 0 0 30 [vA 67, vI c, vI z, vI o, vI x4, vI x5, vI x6, vI x7, vI 0, vU, vU, vU] [] Mk Q := fun Mk x4 x5 x6 x7 hSk hr hq =>
    B_X12_goThrough_30 (sm := sm) (by omega) hSk ⟨⟨by decide, by decide⟩, hr, fun _ => hq, fun q => absurd (Or.inl rfl) q⟩
  have key : ∀ (n : Nat) (pre : List (Int × Int × Int)) (p l a b s : Int) (Mk : MM), n + pre.length = 5 → VS (r 0) p l → pop p = pre.length → RZ a b → (0 ≤ s ∧ s < 1000003) → Fr KWm M Mk → Sh Mk → WMs Mk pre → rd Mk 67 50 = 0 → rd Mk 67 51 = 0 → rd Mk 67 47 = s → pre ++ (evF r sm ch n p l a b s).1 = E.1 → (evF r sm ch n p l a b s).2 = E.2 →
      X G Y_X12_goThrough d 0 0 30 [vA 67, vI c, vI z, vI o, vI a, vI b, vI p, vI l, vI 1, vU, vU, vU] [] Mk Q := by
    intro n
    induction n with
    | zero =>
      intro pre p l a b s Mk hl hv hpp hz hs fk hSk hW h8 h9 h3 x1 x2
      have hz' := hz
      obtain ⟨⟨a0, a1⟩, b0, b1⟩ := hz'
      have hn := VS_NS hv n05
      rw [evF, List.append_nil] at x1
      have x2' : ((0 : Int), (0 : Int), s) = E.2 := x2
      have fin : Q vU Mk := h Mk fk hSk (by rw [← x1]; exact hW) (by rw [h8, ← x2']) (by rw [h9, ← x2']) (by rw [h3, ← x2'])
      refine B_X12_goThrough_30 (sm := sm) (by omega) hSk ⟨⟨by decide, by decide⟩, ⟨by omega, by omega⟩, fun _ => fin, fun q => ?_⟩
      refine T_X12_play hSk (hMk Mk fk) (e69 Mk fk) hc (hmk Mk fk) hv hz (by omega) ?_
      show Sh Mk ∧ _
      rw [hcf]
      have hcc := hch p l a b hn hz
      have e1 : ch p l a b = -1 := by
        by_cases w : ch p l a b = -1
        · exact w
        · have w2 := hcc.2.2 w
          rw [canB_full hV hn.1 (by omega), bt_0 ⟨by omega, hcc.2.1⟩] at w2
          exact absurd w2 (by decide)
      rw [e1]
      exact ⟨hSk, ⟨by decide, by decide⟩, fun _ => B_X12_goThrough_91 (by omega) hSk (over Mk a b p l hSk ⟨by omega, by omega⟩ fin), fun w => absurd rfl w⟩
    | succ n ih =>
      intro pre p l a b s Mk hl hv hpp hz hs fk hSk hW h8 h9 h3 x1 x2
      have hz' := hz
      obtain ⟨⟨a0, a1⟩, b0, b1⟩ := hz'
      have hn := VS_NS hv n05
      have hcc := hch p l a b hn hz
      rw [evF] at x1 x2
      refine B_X12_goThrough_30 (sm := sm) (by omega) hSk ⟨⟨by decide, by decide⟩, ⟨by omega, by omega⟩, fun q => ?_, fun q => ?_⟩
      · have q' : a + b ≤ 0 := by omega
        rw [if_pos (Or.inl q')] at x1 x2
        have x2' : ((0 : Int), (0 : Int), s) = E.2 := x2
        rw [List.append_nil] at x1
        exact h Mk fk hSk (by rw [← x1]; exact hW) (by rw [h8, ← x2']) (by rw [h9, ← x2']) (by rw [h3, ← x2'])
      · refine T_X12_play hSk (hMk Mk fk) (e69 Mk fk) hc (hmk Mk fk) hv hz (by omega) ?_
        show Sh Mk ∧ _
        rw [hcf, e69 Mk fk]
        generalize hce : ch p l a b = cc at *
        refine ⟨hSk, ⟨by omega, by omega⟩, fun q2 => ?_, fun q2 => ⟨hV, hn.1, fun q3 => ?_, fun q3 => ?_⟩⟩
        · rw [if_pos (Or.inr q2)] at x1 x2
          have x2' : ((0 : Int), (0 : Int), s) = E.2 := x2
          rw [List.append_nil] at x1
          exact B_X12_goThrough_91 (by omega) hSk (over Mk a b p l hSk ⟨by omega, by omega⟩ (h Mk fk hSk (by rw [← x1]; exact hW) (by rw [h8, ← x2']) (by rw [h9, ← x2']) (by rw [h3, ← x2'])))
        · rw [if_pos (show 0 ≤ cc by omega)] at q3
          exact absurd (hcc.2.2 q2) q3
        · have hcs := canB_s hV hn.1 ⟨show 0 ≤ cc by omega, hcc.2.1⟩ (hcc.2.2 q2)
          have hns := NS_next hn ⟨show 0 ≤ cc by omega, hcc.2.1⟩ hcs.2
          rw [if_neg (show ¬ (a + b ≤ 0 ∨ cc = -1) by omega)] at x1 x2
          have h48 : rd Mk 67 48 = pre.length := hW.1
          rw [h48]
          refine ⟨by omega, by omega, fun M26 e26 hS26 => ?_⟩
          have g26 : rd M26 67 48 = pre.length := by rw [e26, rd_wr, if_neg (by omega)]; exact h48
          rw [g26]
          refine ⟨by omega, by omega, fun M29 e29 hS29 => ?_⟩
          have g29 : rd M29 67 48 = pre.length := by rw [e29, rd_wr, if_neg (by omega)]; exact g26
          rw [g29]
          refine ⟨by omega, by omega, fun M32 e32 hS32 M33 e33 hS33 => ?_⟩
          have hW33 : WMs M33 (pre ++ [(cc, a, b)]) := hW.add e26 e29 e32 e33
          have f33 : Fr (fun a j => a = 92 ∨ (a = 67 ∧ j = 48)) Mk M33 := by
            rw [e33, e32, e29, e26]
            exact (((Fr.rf.wr (Or.inl rfl)).wr (Or.inl rfl)).wr (Or.inl rfl)).wr (Or.inr ⟨rfl, rfl⟩)
          have f33' : Fr KWm M M33 := fk.tr (f33.mono (fun a j q => by unfold KWm; omega))
          rw [e69 M33 f33', show (10 : Int) + 3 * cc + 2 = 12 + 3 * cc by omega]
          have hsc := hV.2.2.1 cc (by omega) hcc.2.1
          have z33 : ∀ j : Int, j ≠ 48 → rd M33 67 j = rd Mk 67 j := fun j q => f33.2.2 _ _ (by omega)
          have hsh := sb_shl hn.1 ⟨show 0 ≤ cc by omega, hcc.2.1⟩ n05 hv.2.1 hcs.1
          have hv' : VS (r 0) (sb p cc) cc := ⟨hns.1.1.1, hsh, by omega, hcs.1, hns.1.2.2⟩
          refine ⟨by omega, by omega, ⟨by omega, by omega⟩, fun q4 => ?_, fun q4 M53 e53 hS53 M54 e54 hS54 v55 e55 => ?_⟩
          · rw [if_neg q4] at x1 x2
            refine ⟨hMk M33 f33', Or.inl rfl, ⟨⟨by omega, hcc.2.1⟩, hn.1, hn.2.1, hz.1, hz.2⟩, fun r41 M40 e40 hS40 => ?_⟩
            obtain ⟨f40, e41⟩ := e40
            have f40' : Fr KWm M M40 := f33'.tr (f40.mono (fun a j q => Or.inl q))
            rw [e69 M40 f40']
            refine ⟨hMk M40 f40', Or.inr rfl, fun r46 M45 e45 hS45 => ?_⟩
            obtain ⟨f45, e46⟩ := e45
            have f45' : Fr KWm M M45 := f40'.tr (f45.mono (fun a j q => Or.inl q))
            have z45 : ∀ a j : Int, ¬ KA a j → rd M45 a j = rd M33 a j := fun a j q => by rw [f45.2.2 _ _ q, f40.2.2 _ _ q]
            have he := evS_ok (r := r) (sm := sm) (c := cc) (p := p) (l := l) hz hs
            rw [e41, e46]
            refine T_X12_staying hS45 (s := s) (by rw [z45 _ _ (by unfold KA; omega), z33 _ (by decide)]; exact h3) hs hz.1 chn_ok (by omega) (fun M48 f48 hS48 e48 => ?_)
            show Sh M48 ∧ _
            have s1 := stF_ok (c := chn r sm 0 cc p l a b) hs a.toNat
            refine ⟨hS48, ?_⟩
            refine T_X12_staying hS48 e48 ⟨s1.1, s1.2.1⟩ hz.2 chn_ok (by omega) (fun M50 f50 hS50 e50 => ?_)
            show Sh M50 ∧ _
            refine ⟨hS50, fun v52 e52 => ?_⟩
            have e52' : v52 = sb p cc := e52
            rw [e52']
            have fw : Fr (fun a j => a = 67 ∧ j = 47) M45 M50 := f48.tr f50
            have zz : ∀ a j : Int, ¬ (a = 67 ∧ j = 47) → ¬ KA a j → rd M50 a j = rd M33 a j := fun a j q q' => by rw [fw.2.2 _ _ q, z45 _ _ q']
            exact ih (pre ++ [(cc, a, b)]) (sb p cc) cc (evS r sm cc p l a b s).1.2 (evS r sm cc p l a b s).2.2 (evS r sm cc p l a b s).2.1 M50 (by simp; omega) hv' (by rw [hns.2, hpp]; simp) he.2.2.2.2 ⟨he.2.2.1, he.2.2.2.1⟩ (f45'.tr (fw.mono (fun a j q => by unfold KWm; omega))) hS50
              ⟨by rw [zz _ _ (by omega) (by unfold KA; omega)]; exact hW33.1, fun i hi => by rw [zz _ _ (by omega) (by unfold KA; omega), zz _ _ (by omega) (by unfold KA; omega), zz _ _ (by omega) (by unfold KA; omega)]; exact hW33.2 i hi⟩ (by rw [zz _ _ (by omega) (by unfold KA; omega), z33 _ (by decide)]; exact h8) (by rw [zz _ _ (by omega) (by unfold KA; omega), z33 _ (by decide)]; exact h9) e50 (by rw [← x1]; simp) x2
          · rw [if_pos q4] at x1 x2
            have x2' : (a, b, s) = E.2 := x2
            have f54 : Fr (fun a j => a = 67 ∧ (j = 50 ∨ j = 51)) M33 M54 := by rw [e54, e53]; exact (Fr.rf.wr ⟨rfl, Or.inl rfl⟩).wr ⟨rfl, Or.inr rfl⟩
            have zz : ∀ a j : Int, ¬ (a = 67 ∧ (j = 50 ∨ j = 51)) → rd M54 a j = rd M33 a j := fun a j q => f54.2.2 _ _ q
            refine over M54 a b v55 cc hS54 ⟨by omega, by omega⟩ (h M54 (f33'.tr (f54.mono (fun a j q => by unfold KWm; omega))) hS54 ?_ ?_ ?_ ?_)
            · rw [← x1]
              exact ⟨by rw [zz _ _ (by omega)]; exact hW33.1, fun i hi => by rw [zz _ _ (by omega), zz _ _ (by omega), zz _ _ (by omega)]; exact hW33.2 i hi⟩
            · rw [e54, rd_wr, if_neg (by omega), e53, rd_wr, if_pos ⟨rfl, rfl⟩, ← x2']
            · rw [e54, rd_wr, if_pos ⟨rfl, rfl⟩, ← x2']
            · rw [zz _ _ (by omega), z33 _ (by decide), h3, ← x2']
  have f3 : Fr (fun a j => a = 67 ∧ (j = 48 ∨ j = 50 ∨ j = 51)) M M3 := by rw [e3, e2, e1]; exact ((Fr.rf.wr ⟨rfl, Or.inl rfl⟩).wr ⟨rfl, Or.inr (Or.inl rfl)⟩).wr ⟨rfl, Or.inr (Or.inr rfl)⟩
  have hsh := shl_ok n05.1 n05.2
  exact key 5 [] 0 (-1) z o s M3 rfl ⟨by decide, by omega, by decide, by omega, Or.inl ⟨rfl, rfl⟩⟩ (by rw [pop0]; rfl) hz hs (f3.mono (fun a j q => by unfold KWm; omega)) hS3 ⟨by rw [e3, rd_wr, if_neg (by omega), e2, rd_wr, if_neg (by omega), e1, rd_wr, if_pos ⟨rfl, rfl⟩]; rfl, fun i hi => by simp at hi⟩ (by rw [e3, rd_wr, if_neg (by omega), e2, rd_wr, if_pos ⟨rfl, rfl⟩]) (by rw [e3, rd_wr, if_pos ⟨rfl, rfl⟩]) (by rw [f3.2.2 _ _ (by omega)]; exact es) (by rw [hE]; rfl) (by rw [hE])
end EM
