/-! ===== who chooses: the class's tables ===== -/
theorem nxt_congr {r f g : Int → Int} {n p : Int} (hp : 0 ≤ p ∧ p < 32) (h : ∀ i : Int, 0 ≤ i → i < n → f i = g i) : nxt r f n p = nxt r g n p := by
  have hq := pop_le hp.1 hp.2
  unfold nxt
  by_cases e : pop p < n
  · rw [pfx_congr (f := f) (g := g) (fun j j0 j1 => h j j0 (by omega)), h (pop p) hq.1 e]
  · rw [if_neg (fun w => e w.1), if_neg (fun w => e w.1)]
theorem nxt_bt {r f : Int → Int} {n p : Int} : nxt r f n p ≠ -1 → bt (canB r p) (nxt r f n p) = 1 := by
  unfold nxt
  split
  · rename_i w; intro _; exact w.2.2
  · intro w; exact absurd rfl w
theorem nxt_rng {r f : Int → Int} {n p : Int} (hR : RowOk f n) (hp : 0 ≤ p ∧ p < 32) : -1 ≤ nxt r f n p ∧ nxt r f n p < 5 := by
  have hq := pop_le hp.1 hp.2
  unfold nxt
  split
  · rename_i w; have := hR.1 (pop p) hq.1 w.1; omega
  · exact ⟨by decide, by decide⟩
theorem mst_bt {r : Int → Int} {sm : Int → LSm} {p l z o : Int} : ∀ n : Nat, (mstP r sm p l z o n).1 = -1 ∨ (0 ≤ (mstP r sm p l z o n).1 ∧ (mstP r sm p l z o n).1 < n ∧ bt (canB r p) (mstP r sm p l z o n).1 = 1)
  | 0 => Or.inl rfl
  | n + 1 => by
    have ih := mst_bt (r := r) (sm := sm) (p := p) (l := l) (z := z) (o := o) n
    simp only [mstP]
    split
    · rename_i q; exact Or.inr ⟨by dsimp only; omega, by dsimp only; omega, q.1⟩
    · rcases ih with w | w
      · exact Or.inl w
      · exact Or.inr ⟨w.1, by omega, w.2.2⟩
theorem mst_ok {r : Int → Int} {sm : Int → LSm} (hV : RS r) (p l z o : Int) : -1 ≤ mst r sm p l z o ∧ mst r sm p l z o < 5 ∧ (mst r sm p l z o ≠ -1 → bt (canB r p) (mst r sm p l z o) = 1) := by
  have n0 := hV.1
  have n5 := hV.2.1
  have h := mst_bt (r := r) (sm := sm) (p := p) (l := l) (z := z) (o := o) (r 0).toNat
  unfold mst
  rcases h with w | w
  · rw [w]; exact ⟨by decide, by decide, fun q => absurd rfl q⟩
  · exact ⟨by omega, by omega, fun _ => w.2.2⟩
theorem ahd_ok {r : Int → Int} {sm : Int → LSm} (hV : RS r) {p : Int} (hp : 0 ≤ p ∧ p < 32) (l z o : Int) : -1 ≤ aheadC r sm p l z o ∧ aheadC r sm p l z o < 5 ∧ (aheadC r sm p l z o ≠ -1 → bt (canB r p) (aheadC r sm p l z o) = 1) ∧ (canB r p = 0 → aheadC r sm p l z o = -1) := by
  have h1 := VV2_rng (r := r) (sm := sm) (g := 8) (can := cBs r) cBs_R.1 hV (l := l) (z := z) (o := o) hp
  have n5 := hV.2.1
  have n0 := hV.1
  have key : aheadC r sm p l z o ≠ -1 → bt (canB r p) (aheadC r sm p l z o) = 1 := by
    unfold aheadC
    intro q
    rw [VV_eq cBs_R.1 hp] at q ⊢
    split at q
    · exact absurd rfl q
    · rename_i hzo
      rw [if_neg hzo]
      have hb := bstF_rng (can := cBs r p l z o) (w := fun s => Wf r sm 8 (fun p l z o => (VV r sm 8 (cBs r) p l z o).1) s p l z o) (n := (r 0).toNat)
      have := (hb.2.2.2 q).1
      simp only [cBs, Bool.and_eq_true, decide_eq_true_eq] at this
      exact this.1
  refine ⟨h1.1, h1.2, key, fun e => ?_⟩
  by_cases q : aheadC r sm p l z o = -1
  · exact q
  · have w := key q
    have h2 : -1 ≤ aheadC r sm p l z o := h1.1
    have h3 : aheadC r sm p l z o < 5 := h1.2
    rw [e, bt_0 (s := aheadC r sm p l z o) ⟨by omega, h3⟩] at w
    exact absurd w (by decide)
/-- by the best choice at each place a value is the best one -/
theorem ahd_eq {r : Int → Int} {sm : Int → LSm} (hV : RS r) : ∀ (n : Nat) (p l z o : Int), 0 ≤ p → p < 32 → (5 - pop p).toNat = n → VV r sm 8 (cF (aheadC r sm) r) p l z o = VV r sm 8 (cBs r) p l z o := by
  have n0 := hV.1
  have n5 := hV.2.1
  intro n
  induction n with
  | zero =>
    intro p l z o p0 p1 hn
    have hq := pop_le p0 p1
    have none : ∀ can : CAN, canOk can → VV r sm 8 can p l z o = if z + o = 0 then (gon r 8 p l, -1) else (0, -1) := by
      intro can hc
      rw [VV_eq hc ⟨p0, p1⟩]
      split
      · rfl
      · rw [bstF_none]
        intro s s0 s1
        cases w : can p l z o s with
        | false => rfl
        | true =>
          have h1 := hc p l z o s w
          have := pop5 ⟨p0, p1⟩ ⟨h1.1, h1.2.1⟩ h1.2.2
          omega
    rw [none _ cF_R.1, none _ cBs_R.1]
  | succ n ih =>
    intro p l z o p0 p1 hn
    have hq := pop_le p0 p1
    have hA := ahd_ok (sm := sm) hV ⟨p0, p1⟩ l z o
    have eA : aheadC r sm p l z o = (VV r sm 8 (cBs r) p l z o).2 := rfl
    rw [VV_eq cF_R.1 ⟨p0, p1⟩]
    rw [VV_eq cBs_R.1 ⟨p0, p1⟩] at eA ⊢
    split
    · rfl
    · rename_i hzo
      rw [if_neg hzo] at eA
      have hb := bstF_rng (can := cBs r p l z o) (w := fun s => Wf r sm 8 (fun p l z o => (VV r sm 8 (cBs r) p l z o).1) s p l z o) (n := (r 0).toNat)
      have h1 : ∀ s : Int, 0 ≤ s → s < (r 0).toNat → cF (aheadC r sm) r p l z o s = decide (s = aheadC r sm p l z o) := by
        intro s s0 s1
        unfold cF
        by_cases e : s = aheadC r sm p l z o
        · have w := hA.2.2.1 (by omega)
          rw [← e] at w
          have := canB_s hV ⟨p0, p1⟩ ⟨s0, by omega⟩ w
          simp [e] at this ⊢
          omega
        · simp [e]
      rw [bstF_one h1]
      by_cases e : aheadC r sm p l z o = -1
      · rw [if_neg (by omega)]
        rw [e] at eA
        refine Prod.ext ?_ eA
        exact (hb.2.2.1 eA.symm).symm
      · have w := hA.2.2.1 e
        have hs := canB_s hV ⟨p0, p1⟩ ⟨show 0 ≤ aheadC r sm p l z o by omega, hA.2.1⟩ w
        rw [if_pos ⟨by omega, by omega⟩]
        refine Prod.ext ?_ eA
        have h2 := (hb.2.2.2 (by rw [← eA]; exact e)).2
        rw [← eA] at h2
        refine Eq.trans ?_ h2.symm
        dsimp only
        have hpop := pop_sb p0 p1 (show 0 ≤ aheadC r sm p l z o by omega) hA.2.1 hs.2
        have hsl := sb_lt p0 p1 (show 0 ≤ aheadC r sm p l z o by omega) hA.2.1
        unfold Wf
        congr 1
        split
        · rfl
        · unfold expc
          refine sumTo_congr (fun a a0 a1 => ?_)
          congr 1
          refine sumTo_congr (fun b b0 b1 => ?_)
          congr 1
          show (VV r sm 8 (cF (aheadC r sm) r) (sb p (aheadC r sm p l z o)) (aheadC r sm p l z o) a b).1 = (VV r sm 8 (cBs r) (sb p (aheadC r sm p l z o)) (aheadC r sm p l z o) a b).1
          rw [ih (sb p (aheadC r sm p l z o)) (aheadC r sm p l z o) a b hsl.1 hsl.2 (by omega)]
def chC (r : Int → Int) (sm : Int → LSm) (c : Int) : Int → Int → Int → Int → Int :=
  if c = 0 then fun p _ _ _ => nxt r (bkf r) (r 3) p else if c = 1 then mst r sm else if c = 2 then aheadC r sm else fun p _ _ _ => nxt r (rowf (fixL r sm)) (fixL r sm).length p
def canC (r : Int → Int) (sm : Int → LSm) (c : Int) : CAN := if c = 4 then cBs r else cF (chC r sm c) r
theorem rtV_C {r : Int → Int} {sm : Int → LSm} {c g z o : Int} (hc : 0 ≤ c ∧ c ≤ 3) : (VV r sm g (canC r sm c) 0 (-1) z o).1 = rtV r sm c g z o := by
  unfold canC rtV chC
  rw [if_neg (by omega)]
  by_cases c0 : c = 0
  · rw [if_pos c0, if_pos c0]; rfl
  · rw [if_neg c0, if_neg c0]
    by_cases c1 : c = 1
    · rw [if_pos c1, if_pos c1]
    · rw [if_neg c1, if_neg c1]
      by_cases c2 : c = 2
      · rw [if_pos c2, if_pos c2]
      · rw [if_neg c2, if_neg c2]; rfl
section CX
variable {G : GG} {r : Int → Int} {sm : Int → LSm} {g : Int}
def Top4 : Int → Int → Int → Int → Prop := fun _ _ _ _ => True
def TopM : MM → Prop := fun _ => True
theorem cBs_bt {p l z o s : Int} (h : cBs r p l z o s = true) : bt (canB r p) s = 1 := by
  simp only [cBs, Bool.and_eq_true, decide_eq_true_eq] at h
  exact h.1
theorem cF_eq {chf : Int → Int → Int → Int → Int} {p l z o s : Int} (h : cF chf r p l z o s = true) : s = chf p l z o ∧ 0 ≤ s ∧ s < 5 ∧ s < r 0 ∧ bt p s = 0 := by
  simp only [cF, Bool.and_eq_true, decide_eq_true_eq] at h
  exact ⟨h.1, h.2.1.1, h.2.1.2, h.2.2.1, h.2.2.2⟩
theorem cx_all {t c : Int} (ht : (t = 32 ∧ c = 4) ∨ (t = 44 ∧ c = 4)) (hg : 0 ≤ g ∧ g ≤ 10) : tCx G r sm t g c (cBs r) Top4 TopM :=
  ⟨by omega, hg, by omega, cBs_R, fun p l z o s _ _ w => cBs_bt w, fun _ _ _ _ => trivial, fun _ _ _ _ _ _ _ _ _ _ _ _ _ _ _ => trivial, Or.inl ⟨Or.inr (by omega), rfl⟩⟩
theorem cx_one {c : Int} {chf : Int → Int → Int → Int → Int} {Rch : Int → Int → Int → Int → Prop} {I : MM → Prop} (hg : 0 ≤ g ∧ g ≤ 10) (hc : 0 ≤ c ∧ c ≤ 3) (hI : ∀ M M', I M → Fr (KZ 44) M M' → I M')
    (hb : ∀ p l z o : Int, 0 ≤ p → p < 32 → -1 ≤ chf p l z o ∧ chf p l z o < 5 ∧ (chf p l z o ≠ -1 → bt (canB r p) (chf p l z o) = 1))
    (hR : ∀ p l z o s a b : Int, NS p l → RZ z o → z + o ≠ 0 → Rch p l z o → cF chf r p l z o s = true → r (12 + 3 * s) ≠ 1 → spt z (chn r sm 0 s p l z o) a → spt o (chn r sm 1 s p l z o) b → Rch (sb p s) s a b)
    (hC : tCh G r sm c chf Rch I) : tCx G r sm 44 g c (cF chf r) Rch I := by
  refine ⟨Or.inr rfl, hg, by omega, cF_R, fun p l z o s p0 p1 w => ?_, hI, hR, Or.inr ⟨rfl, by omega, chf, rfl, fun p l z o hn hz => hb p l z o hn.1.1 hn.1.2, hC⟩⟩
  have e := cF_eq w
  have := (hb p l z o p0 p1).2.2 (by omega)
  rw [← e.1] at this
  exact this
theorem cx_0 (hV : RS r) (hg : 0 ≤ g ∧ g ≤ 10) : tCx G r sm 44 g 0 (cF (fun p _ _ _ => nxt r (bkf r) (r 3) p) r) Top4 TopM := by
  refine cx_one hg ⟨by decide, by decide⟩ (fun _ _ _ _ => trivial) (fun p l z o p0 p1 => ⟨(nxt_rng (bk_ok hV).1 ⟨p0, p1⟩).1, (nxt_rng (bk_ok hV).1 ⟨p0, p1⟩).2, nxt_bt⟩) (fun _ _ _ _ _ _ _ _ _ _ _ _ _ _ _ => trivial) ?_
  intro M Q d p l z o hd hS hC _ hn hz hne _ h
  refine T_choose_row0 hS hC.1.1 hV hn.1 (by omega) ?_
  have h8 := hC.1.1.2.2.2.2.2.2.2.1
  have b3 := (bk_ok hV).2
  rw [nxt_congr (g := bkf r) hn.1 (fun i i0 i1 => h8 i i0 (by omega))]
  exact h M Fr.rf hC hS
theorem cx_1 (hV : RS r) (hg : 0 ≤ g ∧ g ≤ 10) : tCx G r sm 44 g 1 (cF (mst r sm) r) Top4 TopM := by
  refine cx_one hg ⟨by decide, by decide⟩ (fun _ _ _ _ => trivial) (fun p l z o _ _ => mst_ok hV p l z o) (fun _ _ _ _ _ _ _ _ _ _ _ _ _ _ _ => trivial) ?_
  intro M Q d p l z o hd hS hC _ hn hz hne _ h
  exact T_choose_mst hS hC hn hz.1 hz.2 hd h
def FxI (t : List Int) : MM → Prop := fun M => rd M 30 4 = t.length ∧ ∀ i : Int, 0 ≤ i → i < t.length → rd M 31 i = rowf t i
theorem cx_3 {t : List Int} (hV : RS r) (ht : RowOk (rowf t) t.length ∧ t.length ≤ 5) (hg : 0 ≤ g ∧ g ≤ 10) : tCx G r sm 44 g 3 (cF (fun p _ _ _ => nxt r (rowf t) t.length p) r) Top4 (FxI t) := by
  refine cx_one hg ⟨by decide, by decide⟩ (fun M M' h f => ?_) (fun p l z o p0 p1 => ⟨(nxt_rng ht.1 ⟨p0, p1⟩).1, (nxt_rng ht.1 ⟨p0, p1⟩).2, nxt_bt⟩) (fun _ _ _ _ _ _ _ _ _ _ _ _ _ _ _ => trivial) ?_
  · exact ⟨by rw [f.2.2 _ _ (by unfold KZ KTd KX; omega)]; exact h.1, fun i i0 i1 => by rw [f.2.2 _ _ (by unfold KZ KTd KX; omega)]; exact h.2 i i0 i1⟩
  intro M Q d p l z o hd hS hC hI hn hz hne _ h
  have hl := ht.2
  have hI1 := hI.1
  refine T_choose_row3 hS hC.1.1 hV hn.1 ⟨by omega, by omega⟩ ?_ (by omega) ?_
  · rw [hI.1]
    exact ⟨fun i i0 i1 => by rw [hI.2 i i0 i1]; exact ht.1.1 i i0 i1, fun i j i0 ij j1 => by rw [hI.2 i i0 (by omega), hI.2 j (by omega) j1]; exact ht.1.2 i j i0 ij j1⟩
  · rw [hI.1, nxt_congr (g := rowf t) hn.1 hI.2]
    exact h M Fr.rf hC hS
def AhI (r : Int → Int) (sm : Int → LSm) (M0 : MM) : MM → Prop := fun M => rd M 33 = rd M0 33 ∧ rd M 34 = rd M0 34 ∧ rd M 32 9 = rd M0 32 9
def AhR (r : Int → Int) (M0 : MM) : Int → Int → Int → Int → Prop := fun p l z o => tMk M0 32 p l z o ∨ canB r p = 0
theorem ahd_at {M0 : MM} {p l z o : Int} (hV : RS r) (h0 : tIn r sm 8 (cBs r) M0 32) (hn : NS p l) (hz : RZ z o) (hR : AhR r M0 p l z o) :
    (if (iShr (rd M0 34 (slo p l z o)) 3) ≠ (rd M0 32 9) then (-1) else ((iAnd (rd M0 34 (slo p l z o)) 7) - 1)) = aheadC r sm p l z o := by
  have hsl := slo_rng hn hz.1 hz.2
  have hb : 0 ≤ rd M0 34 (slo p l z o) ∧ rd M0 34 (slo p l z o) < 8 * rd M0 32 9 + 8 := h0.1.2.2 _ hsl.1 hsl.2
  have t1 := h0.1.1
  have t2 := h0.1.2.1
  have hA := ahd_ok (sm := sm) hV hn.1 l z o
  rw [iShr_3 ⟨by omega, by omega⟩, and7 hb.1 (by omega)]
  by_cases e : rd M0 34 (slo p l z o) / 8 = rd M0 32 9
  · rw [if_neg (fun w => w e)]
    have sg : rd M0 34 (slo p l z o) = 8 * rd M0 32 9 + aheadC r sm p l z o + 1 := (h0.2.1 p l z o hn hz e).2.2
    rw [sg]
    omega
  · rw [if_pos e]
    rcases hR with w | w
    · exact absurd w e
    · exact (hA.2.2.2 w).symm
theorem cx_2 {M0 : MM} (hV : RS r) (hg : 0 ≤ g ∧ g ≤ 10) (h0 : tIn r sm 8 (cBs r) M0 32) : tCx G r sm 44 g 2 (cF (aheadC r sm) r) (AhR r M0) (AhI r sm M0) := by
  refine cx_one hg ⟨by decide, by decide⟩ (fun M M' h f => ?_) (fun p l z o p0 p1 => ⟨(ahd_ok hV ⟨p0, p1⟩ l z o).1, (ahd_ok hV ⟨p0, p1⟩ l z o).2.1, (ahd_ok hV ⟨p0, p1⟩ l z o).2.2.1⟩) (fun p l z o s a b hn hz hne hR hc hE ha hb => ?_) ?_
  · exact ⟨by rw [← h.1]; exact funext fun j => f.2.2 _ _ (by unfold KZ KTd KX; omega), by rw [← h.2.1]; exact funext fun j => f.2.2 _ _ (by unfold KZ KTd KX; omega), by rw [f.2.2 _ _ (by unfold KZ KTd KX; omega)]; exact h.2.2⟩
  · obtain ⟨e, s0, s5, sr, sb0⟩ := cF_eq hc
    have w := (ahd_ok (sm := sm) hV hn.1 l z o).2.2.1 (by omega)
    rw [← e] at w
    have hm : tMk M0 32 p l z o := by
      rcases hR with y | y
      · exact y
      · rw [y, bt_0 ⟨s0, s5⟩] at w; exact absurd w (by decide)
    by_cases q : canB r (sb p s) = 0
    · exact Or.inr q
    · exact Or.inl (h0.2.2 p l z o s a b hn hz hne hm ((cBs_iff hV hn.1 ⟨s0, s5⟩).mpr w) hE (Or.inr q) ha hb)
  · intro M Q d p l z o hd hS hC hI hn hz hne hR h
    have t1 := h0.1.1
    have t2 := h0.1.2.1
    refine T_choose_ahead hS hC.2.1 hn hz.1 hz.2 (by rw [hI.2.2]; exact ⟨by omega, by omega⟩) (by omega) ?_
    rw [hI.2.1, hI.2.2, ahd_at hV h0 hn hz hR]
    exact h M Fr.rf hC hS
end CX
