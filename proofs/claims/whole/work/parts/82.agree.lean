/-! ===== what the plan reads of the row ===== -/
def AgT (r r' : Int → Int) (sm sm' : Int → LSm) : Prop := r' 0 = r 0 ∧ r' 2 = r 2 ∧ (∀ j : Int, 10 ≤ j → j ≤ 24 → r' j = r j) ∧ (r 2 ≠ -1 → sm' (r 2) = sm (r 2))
def Ag (r r' : Int → Int) (sm sm' : Int → LSm) : Prop := AgT r r' sm sm' ∧ ∀ j : Int, 30 ≤ j → j ≤ 42 → r' j = r j
section AG
variable {r r' : Int → Int} {sm sm' : Int → LSm}
theorem mnO_ag (hV : RS r) (h : AgT r r' sm sm') (p : Int) : mnO r' p = mnO r p := by
  have n0 := hV.1
  have n5 := hV.2.1
  unfold mnO
  rw [h.1]
  refine sumTo_congr (fun s s0 s1 => ?_)
  rw [h.2.2.1 (10 + 3 * s) (by omega) (by omega)]
theorem askV_ag (h : AgT r r' sm sm') (F : Int → Int) (hd : Int) : askV r' sm' F hd = askV r sm F hd := by
  unfold askV
  rw [h.2.1]
  by_cases q : r 2 = -1
  · rw [if_pos q, if_pos q]
  · rw [if_neg q, if_neg q, h.2.2.2 q]
theorem chn_ag (hV : RS r) (h : AgT r r' sm sm') (so s p l z o : Int) : chn r' sm' so s p l z o = chn r sm so s p l z o := by unfold chn; rw [askV_ag h, mnO_ag hV h]
theorem prc_ag (hV : RS r) (h : AgT r r' sm sm') (so s p l z o : Int) : prc r' sm' so s p l z o = prc r sm so s p l z o := by unfold prc; rw [askV_ag h, mnO_ag hV h]
theorem prcs_ag (hV : RS r) (h : AgT r r' sm sm') (s p l z o : Int) : prcs r' sm' s p l z o = prcs r sm s p l z o := by unfold prcs; rw [prc_ag hV h, prc_ag hV h]
theorem tolV_ag (hV : RS r) (h : AgT r r' sm sm') (p l s z o : Int) : tolV r' sm' p l s z o = tolV r sm p l s z o := by unfold tolV; rw [chn_ag hV h, chn_ag hV h, prcs_ag hV h]
theorem CKp_ag {M : MM} (hV : RS r) (h : AgT r r' sm sm') (hk : CKp M r sm) : CKp M r' sm' := by
  rcases hk with q | ⟨q, q2⟩
  · exact Or.inl q
  · exact Or.inr ⟨q, fun p l s z o a1 a2 a3 a4 a5 a6 a7 a8 => by rw [tolV_ag hV h]; exact q2 p l s z o a1 a2 a3 a4 a5 a6 a7 a8⟩
theorem canB_ag (hV : RS r) (h : Ag r r' sm sm') (p : Int) : canB r' p = canB r p := by
  have n0 := hV.1
  have n5 := hV.2.1
  have h1 := h.1
  have e1 : endW r' p = endW r p := by
    unfold endW
    rw [h1.1]
    refine anyTo_congr (fun s s0 s1 => ?_)
    rw [h1.2.2.1 (12 + 3 * s) (by omega) (by omega)]
  unfold canB
  rw [e1, h1.1]
  split
  · rfl
  · refine orTo_congr (fun s s0 s1 => ?_)
    unfold opB
    rw [h1.2.2.1 (11 + 3 * s) (by omega) (by omega), h1.2.2.1 (10 + 3 * s) (by omega) (by omega), mnO_ag hV h1, h.2 42 (by decide) (by decide)]
theorem brg_ag (hV : RS r) (h : Ag r r' sm sm') {s : Int} (hs : 0 ≤ s ∧ s < 5) (g p l z o : Int) : brg r' sm' g s p l z o = brg r sm g s p l z o := by
  unfold brg
  rw [h.1.2.2.1 (12 + 3 * s) (by omega) (by omega), h.1.2.2.1 (10 + 3 * s) (by omega) (by omega), h.2 31 (by decide) (by decide), h.2 34 (by decide) (by decide), h.2 40 (by decide) (by decide), h.2 41 (by decide) (by decide), prcs_ag hV h.1]
theorem gon_ag (h : Ag r r' sm sm') {l : Int} (hl : -1 ≤ l ∧ l < 5) (g p : Int) : gon r' g p l = gon r g p l := by
  unfold gon
  by_cases q : l = -1
  · rw [if_neg (fun w => w.2.1 q), if_neg (fun w => w.2.1 q)]
  · rw [h.1.2.2.1 (12 + 3 * l) (by omega) (by omega)]
theorem VC_ag (hV : RS r) (h : Ag r r' sm sm') {can : CAN} (hc : canOk can) (g : Int) : ∀ (n : Nat) (p l z o : Int), -1 ≤ l → l < 5 → VC r' sm' g can n p l z o = VC r sm g can n p l z o
  | 0, p, l, z, o, l0, l1 => by rw [VC, VC, gon_ag h ⟨l0, l1⟩]
  | n + 1, p, l, z, o, l0, l1 => by
    rw [VC, VC, gon_ag h ⟨l0, l1⟩, h.1.1]
    split
    · rfl
    · refine bstF_congr (fun s s0 s1 => ⟨rfl, fun w => ?_⟩)
      have hs := hc p l z o s w
      unfold Wf
      rw [brg_ag hV h ⟨hs.1, hs.2.1⟩, h.1.2.2.1 (12 + 3 * s) (by omega) (by omega), chn_ag hV h.1, chn_ag hV h.1]
      congr 1
      split
      · rfl
      · unfold expc
        refine sumTo_congr (fun a a0 a1 => ?_)
        congr 1
        refine sumTo_congr (fun b b0 b1 => ?_)
        congr 1
        show (VC r' sm' g can n (sb p s) s a b).1 = (VC r sm g can n (sb p s) s a b).1
        rw [VC_ag hV h hc g n (sb p s) s a b (by omega) hs.2.1]
theorem VV_ag (hV : RS r) (h : Ag r r' sm sm') {can : CAN} (hc : canOk can) {l : Int} (hl : -1 ≤ l ∧ l < 5) (g p z o : Int) : VV r' sm' g can p l z o = VV r sm g can p l z o := VC_ag hV h hc g _ p l z o hl.1 hl.2
theorem cBs_ag (hV : RS r) (h : Ag r r' sm sm') : cBs r' = cBs r := by
  funext p l z o s
  unfold cBs
  rw [canB_ag hV h, h.1.1]
theorem nxt_ag (hV : RS r) (h : Ag r r' sm sm') (f : Int → Int) (n p : Int) : nxt r' f n p = nxt r f n p := by unfold nxt; rw [canB_ag hV h]
theorem cF_ag (h : Ag r r' sm sm') (chf : Int → Int → Int → Int → Int) : cF chf r' = cF chf r := by
  funext p l z o s
  unfold cF
  rw [h.1.1]
theorem mst_ag (hV : RS r) (h : Ag r r' sm sm') : mst r' sm' = mst r sm := by
  funext p l z o
  have n0 := hV.1
  have n5 := hV.2.1
  have key : ∀ n : Nat, n ≤ 5 → mstP r' sm' p l z o n = mstP r sm p l z o n := by
    intro n
    induction n with
    | zero => intro _; rfl
    | succ n ih =>
      intro hn
      have e : mstV r' sm' p l z o n = mstV r sm p l z o n := by unfold mstV; rw [h.1.2.2.1 (12 + 3 * (n : Int)) (by omega) (by omega), chn_ag hV h.1, chn_ag hV h.1]
      simp only [mstP]
      rw [ih (by omega), e, canB_ag hV h]
  unfold mst
  rw [h.1.1, key _ (by omega)]
theorem ahd_ag (hV : RS r) (h : Ag r r' sm sm') {l : Int} (hl : -1 ≤ l ∧ l < 5) (p z o : Int) : aheadC r' sm' p l z o = aheadC r sm p l z o := by
  unfold aheadC
  rw [cBs_ag hV h, VV_ag hV h cBs_R.1 hl]
theorem rowV_ag (hV : RS r) (h : Ag r r' sm sm') (g n z o : Int) (f : Int → Int) : rowV r' sm' g f n z o = rowV r sm g f n z o := by
  unfold rowV
  have e : cF (fun p _ _ _ => nxt r' f n p) r' = cF (fun p _ _ _ => nxt r f n p) r := by
    rw [cF_ag h]; congr 1; funext p _ _ _; exact nxt_ag hV h f n p
  rw [e, VV_ag hV h cF_R.1 ⟨by decide, by decide⟩]
theorem wR_ag (hV : RS r) (h : Ag r r' sm sm') : wR r' sm' = wR r sm := by
  funext t
  unfold wR
  rw [rowV_ag hV h, h.2 30 (by decide) (by decide), h.2 33 (by decide) (by decide)]
theorem rws_ag (hV : RS r) (h : Ag r r' sm sm') : ∀ (n : Nat) (p : Int) (t : List Int), rws r' n p t = rws r n p t
  | 0, _, _ => rfl
  | n + 1, p, t => by
    rw [rws, rws, canB_ag hV h]
    split
    · rfl
    · congr 1
      funext s
      exact rws_ag hV h n _ _
theorem allR_ag (hV : RS r) (h : Ag r r' sm sm') : allR r' = allR r := rws_ag hV h 5 0 []
theorem fixL_ag (hV : RS r) (h : Ag r r' sm sm') : fixL r' sm' = fixL r sm := by
  unfold fixL fixR
  rw [allR_ag hV h, wR_ag hV h]
theorem tIn_ag (hV : RS r) (h : Ag r r' sm sm') {can : CAN} (hc : canOk can) {g t : Int} {M : MM} (hi : tIn r sm g can M t) : tIn r' sm' g can M t := by
  refine ⟨hi.1, fun p l z o hn hz w => ?_, fun p l z o s a b hn hz hne w hs hE hg ha hb => ?_⟩
  · rw [VV_ag hV h hc hn.2.1]; exact hi.2.1 p l z o hn hz w
  · have h5 := hc p l z o s hs
    rw [chn_ag hV h.1] at ha hb
    rw [canB_ag hV h] at hg
    rw [h.1.2.2.1 (12 + 3 * s) (by omega) (by omega)] at hE
    exact hi.2.2 p l z o s a b hn hz hne w hs hE hg ha hb
/-- what the values of one chooser read -/
theorem canC_R (c : Int) : canOk (canC r sm c) := by
  unfold canC
  split
  · exact cBs_R.1
  · exact cF_R.1
theorem VV_can {can can' : CAN} (hc : canOk can) (he : ∀ p l z o s : Int, 0 ≤ p → p < 32 → -1 ≤ l → l < 5 → can p l z o s = can' p l z o s) {g : Int} : ∀ (n : Nat) (p l z o : Int), 0 ≤ p → p < 32 → -1 ≤ l → l < 5 → VC r sm g can n p l z o = VC r sm g can' n p l z o
  | 0, p, l, z, o, _, _, _, _ => rfl
  | n + 1, p, l, z, o, p0, p1, l0, l1 => by
    rw [VC, VC]
    split
    · rfl
    · refine bstF_congr (fun s s0 s1 => ⟨he p l z o s p0 p1 l0 l1, fun w => ?_⟩)
      have hs := hc p l z o s w
      have hsl := sb_lt p0 p1 hs.1 hs.2.1
      unfold Wf
      congr 1
      split
      · rfl
      · unfold expc
        refine sumTo_congr (fun a a0 a1 => ?_)
        congr 1
        refine sumTo_congr (fun b b0 b1 => ?_)
        congr 1
        show (VC r sm g can n (sb p s) s a b).1 = (VC r sm g can' n (sb p s) s a b).1
        rw [VV_can hc he n (sb p s) s a b hsl.1 hsl.2 (by omega) hs.2.1]
theorem tIn_can {can can' : CAN} (hc : canOk can) (he : ∀ p l z o s : Int, 0 ≤ p → p < 32 → -1 ≤ l → l < 5 → can p l z o s = can' p l z o s) {g t : Int} {M : MM} (hi : tIn r sm g can M t) : tIn r sm g can' M t := by
  refine ⟨hi.1, fun p l z o hn hz w => ?_, fun p l z o s a b hn hz hne w hs hE hg ha hb => ?_⟩
  · have := hi.2.1 p l z o hn hz w
    unfold VV at this ⊢
    rw [VV_can hc he _ p l z o hn.1.1 hn.1.2 hn.2.1.1 hn.2.1.2] at this
    exact this
  · exact hi.2.2 p l z o s a b hn hz hne w (by rw [he p l z o s hn.1.1 hn.1.2 hn.2.1.1 hn.2.1.2]; exact hs) hE hg ha hb
theorem canC_ag (hV : RS r) (h : Ag r r' sm sm') (h3 : r' 3 = r 3) (hb : ∀ j : Int, 45 ≤ j → j ≤ 49 → r' j = r j) (c : Int) : ∀ p l z o s : Int, 0 ≤ p → p < 32 → -1 ≤ l → l < 5 → canC r sm c p l z o s = canC r' sm' c p l z o s := by
  intro p l z o s p0 p1 l0 l1
  have b3 := (bk_ok hV).2
  unfold canC
  split
  · rw [cBs_ag hV h]
  · rw [cF_ag h]
    unfold cF
    have e : chC r' sm' c p l z o = chC r sm c p l z o := by
      unfold chC
      split
      · show nxt r' (bkf r') (r' 3) p = nxt r (bkf r) (r 3) p
        rw [nxt_ag hV h, h3]
        exact nxt_congr ⟨p0, p1⟩ (fun i i0 i1 => by unfold bkf; exact hb _ (by omega) (by omega))
      · split
        · rw [mst_ag hV h]
        · split
          · exact ahd_ag hV h ⟨l0, l1⟩ p z o
          · show nxt r' (rowf (fixL r' sm')) (fixL r' sm').length p = nxt r (rowf (fixL r sm)) (fixL r sm).length p
            rw [nxt_ag hV h, fixL_ag hV h]
    rw [e]
/-- the row has changed where the plan does not look -/
theorem PL_ag {M : MM} (hP : PL r sm M) (h : Ag r r' sm sm') (hC : COK M r' sm') (hb : rd M 39 4 = 0 ∨ (r' 3 = r 3 ∧ ∀ j : Int, 45 ≤ j → j ≤ 49 → r' j = r j)) : PL r' sm' M := by
  obtain ⟨h1, h2, h3, h4, h5, h6, h7, h8, h9, h10, h11, h12, h13⟩ := hP
  have hV := h2.1.2.1
  refine ⟨h1, ⟨hC, h2.2.1, CKp_ag hV h.1 h2.2.2⟩, h3, ?_, h5, h6, h7, h8, h9, h10, fun w => ?_, fun w => ?_, fun w => ?_⟩
  · rw [cBs_ag hV h]; exact tIn_ag hV h cBs_R.1 h4
  · rcases hb with hb | hb
    · rw [hb] at w; exact absurd w (by decide)
    · have := h11 w
      exact ⟨tIn_ag hV h (canC_R _) (tIn_can (canC_R _) (canC_ag hV h hb.1 hb.2 _) this.1 |> fun q => by
        have e : ∀ p l z o s : Int, 0 ≤ p → p < 32 → -1 ≤ l → l < 5 → canC r sm (rd M 44 10) p l z o s = canC r' sm' (rd M 44 10) p l z o s := canC_ag hV h hb.1 hb.2 _
        exact q), this.2⟩
  · rw [allR_ag hV h]; exact h12 w
  · have := h13 w
    unfold FxK at this ⊢
    rw [fixL_ag hV h, wR_ag hV h]; exact this
end AG
/-- what is left of the plan when the row changes -/
def PW (M : MM) : Prop := Sh M ∧ TBL M ∧ tB0 M 32 ∧ tB0 M 44 ∧ (0 ≤ rd M 44 10 ∧ rd M 44 10 ≤ 4) ∧ (0 ≤ rd M 44 11 ∧ rd M 44 11 ≤ 10)
theorem PL.pw {r : Int → Int} {sm : Int → LSm} {M : MM} (h : PL r sm M) : PW M := ⟨h.1, h.2.1.2.1, h.2.2.2.1.1, h.2.2.2.2.1, h.2.2.2.2.2.1, h.2.2.2.2.2.2.1⟩
theorem PW.fr {K : Int → Int → Prop} {M M' : MM} (h : PW M) (f : Fr K M M') (hK : ∀ a j, K a j → a < 26 ∨ 50 < a) (hS : Sh M') : PW M' := by
  have e : ∀ a j : Int, (26 ≤ a ∧ a ≤ 50) → rd M' a j = rd M a j := fun a j w => f.2.2 _ _ (fun y => by have := hK a j y; omega)
  have e1 : ∀ a : Int, (26 ≤ a ∧ a ≤ 50) → rd M' a = rd M a := fun a w => funext fun j => e a j w
  refine ⟨hS, fun i i0 i1 => ?_, h.2.2.1.eq (e1 _ (by decide)) (e _ _ (by decide)), h.2.2.2.1.eq (e1 _ (by decide)) (e _ _ (by decide)), by rw [e _ _ (by decide)]; exact h.2.2.2.2.1, by rw [e _ _ (by decide)]; exact h.2.2.2.2.2⟩
  rw [e 26 i (by decide), e 27 i (by decide), e 28 i (by decide)]; exact h.2.1 i i0 i1
def KV (a j : Int) : Prop := (a = 25 ∧ j = 6) ∨ (a = 32 ∧ (j = 9 ∨ j = 10 ∨ j = 11)) ∨ (a = 39 ∧ (j = 4 ∨ j = 7 ∨ j = 8))
section VC1
variable {G : GG} {d : Nat} {M : MM} {Q : PV → MM → Prop} {r : Int → Int} {sm : Int → LSm}
theorem T_X6_valuesChanged (hW : PW M) (hC : COK M r sm) (hK : CKp M r sm) (h9 : rd M 32 9 < 90000000) (hd : 2 ≤ d) (h : ∀ M', PL r sm M' → Fr KV M M' → rd M' 32 9 = rd M 32 9 + 1 → Q vU M') : C G Y_X6_valuesChanged d 0 0 [vA 39] M Q := by
  obtain ⟨hS, hT, t32, t44, h10, h11⟩ := hW
  refine C_X6_valuesChanged (B_X6_valuesChanged_0 hd hS fun M1 e1 hS1 M2 e2 hS2 M3 e3 hS3 M4 e4 hS4 => ?_)
  have f4 : Fr (fun a j => (a = 32 ∧ (j = 9 ∨ j = 10 ∨ j = 11)) ∨ (a = 39 ∧ (j = 4 ∨ j = 7 ∨ j = 8))) M M4 := by
    rw [e4, e3, e2, e1]
    exact (((((Fr.rf.wr (by omega)).wr (by omega)).wr (by omega)).wr (by omega)).wr (by omega)).wr (by omega)
  have z : ∀ a j : Int, a ≠ 39 → rd M4 a j = rd M1 a j := fun a j w => by
    rw [e4, rd_wr, if_neg (fun y => w y.1), e3, rd_wr, if_neg (fun y => w y.1), e2, rd_wr, if_neg (fun y => w y.1)]
  have a9 : rd M4 32 9 = rd M 32 9 + 1 := by rw [z _ _ (by decide), e1]; simp [begM, rd_wr]
  have a10 : rd M4 32 10 = 4 := by rw [z _ _ (by decide), e1]; simp [begM, rd_wr]
  have a11 : rd M4 32 11 = 8 := by rw [z _ _ (by decide), e1]; simp [begM, rd_wr]
  have b4 : rd M4 39 4 = 0 := by rw [e4, rd_wr, if_neg (by decide), e3, rd_wr, if_neg (by decide), e2, rd_wr, if_pos ⟨rfl, rfl⟩]
  have b7 : rd M4 39 7 = 0 := by rw [e4, rd_wr, if_neg (by decide), e3, rd_wr, if_pos ⟨rfl, rfl⟩]
  have b8 : rd M4 39 8 = 0 := by rw [e4, rd_wr, if_pos ⟨rfl, rfl⟩]
  have ea : ∀ a j : Int, a ≠ 32 → a ≠ 39 → rd M4 a j = rd M a j := fun a j w1 w2 => f4.2.2 _ _ (by omega)
  have e1' : ∀ a : Int, a ≠ 32 → a ≠ 39 → rd M4 a = rd M a := fun a w1 w2 => funext fun j => ea a j w1 w2
  have b0 : tB0 M4 32 := by
    refine ⟨by rw [a9]; have := t32.1; omega, by rw [a9]; omega, fun i i0 i1 => ?_⟩
    have := t32.2.2 i i0 i1
    rw [ea _ _ (by decide) (by decide), a9]; omega
  have hno : ∀ p l z o : Int, NS p l → RZ z o → ¬ tMk M4 32 p l z o := by
    intro p l z o hn hz w
    have hs := slo_rng hn hz.1 hz.2
    have := t32.2.2 _ hs.1 hs.2
    unfold tMk at w
    rw [ea _ _ (by decide) (by decide), a9] at w
    omega
  have hCI : CIn M4 r sm := CIn.fr ⟨hC, hT, hK⟩ f4 (fun a j w => by omega)
  refine h M4 ⟨hS4, hCI, ⟨a11, a10⟩, ⟨b0, fun p l z o hn hz w => absurd w (hno p l z o hn hz), fun p l z o s a b hn hz _ w => absurd w (hno p l z o hn hz)⟩, t44.eq (e1' _ (by decide) (by decide)) (ea _ _ (by decide) (by decide)), by rw [ea _ _ (by decide) (by decide)]; exact h10, by rw [ea _ _ (by decide) (by decide)]; exact h11, Or.inl b4, Or.inl b7, Or.inl b8, fun w => by rw [b4] at w; exact absurd w (by decide), fun w => by rw [b7] at w; exact absurd w (by decide), fun w => by rw [b8] at w; exact absurd w (by decide)⟩ (f4.mono (fun a j w => Or.inr w)) a9
theorem T_X6_lawsChanged (hW : PW M) (hC : COK M r sm) (h9 : rd M 32 9 < 90000000) (hd : 3 ≤ d) (h : ∀ M', PL r sm M' → Fr KV M M' → rd M' 32 9 = rd M 32 9 + 1 → Q vU M') : C G Y_X6_lawsChanged d 0 0 [vA 39] M Q := by
  refine C_X6_lawsChanged (B_X6_lawsChanged_0 (by omega) hW.1 fun M1 e1 hS1 => ?_)
  have f1 : Fr (fun a j => a = 25 ∧ j = 6) M M1 := by rw [e1]; exact Fr.rf.wr ⟨rfl, rfl⟩
  have z : rd M1 32 9 = rd M 32 9 := f1.2.2 _ _ (by decide)
  refine T_X6_valuesChanged (hW.fr f1 (fun a j w => by omega) hS1) (hC.fr f1 (fun a j w => by omega)) (Or.inl (by rw [e1, rd_wr, if_pos ⟨rfl, rfl⟩])) (by rw [z]; exact h9) (by omega) (fun M2 hP2 f2 a9 => ?_)
  show Sh M2 ∧ _
  exact ⟨hP2.1, h M2 hP2 ((f1.mono (fun a j w => Or.inl w)).tr f2) (by rw [a9, z])⟩
end VC1
