/-! ===== nights ===== -/
def mn5 (x : Int) : Int := if x < 5 then x else 5
def sitN (r : Int → Int) (L : List (Int × Int × Int)) : Nat → Int
  | 0 => 0
  | k + 1 => sitN r L k + r (10 + 3 * (L.getD k (0, 0, 0)).1) * ((L.getD k (0, 0, 0)).2.1 + (L.getD k (0, 0, 0)).2.2)
abbrev NG : Type := Int × Int × Int × Int × Int × Int × Int × Int
def ngB (r : Int → Int) (k : Nat) (q : NG) : Int × Int × Int := if k = 0 then (q.1, q.2.1, q.2.2.1) else (mn5 (q.2.2.2.1 + drw q.2.2.1 % (r 32 + 1)), mn5 (q.2.2.2.2.1 + drw (drw q.2.2.1) % (r 35 + 1)), drw (drw q.2.2.1))
def ngE (r : Int → Int) (sm : Int → LSm) (ch : Int → Int → Int → Int → Int) (b : Int × Int × Int) : EV := evF r sm ch 5 0 (-1) b.1 b.2.1 b.2.2
def ngN (r : Int → Int) (q : NG) (b : Int × Int × Int) (E : EV) : NG := (b.1, b.2.1, E.2.2.2, E.2.1, E.2.2.1, q.2.2.2.2.2.1 + (b.1 + b.2.1), q.2.2.2.2.2.2.1 + (E.2.1 + E.2.2.1), q.2.2.2.2.2.2.2 + sitN r E.1 E.1.length)
def ngS (r : Int → Int) (sm : Int → LSm) (ch : Int → Int → Int → Int → Int) (s : Int) : Nat → NG
  | 0 => (r 30, r 33, s, 0, 0, 0, 0, 0)
  | k + 1 => ngN r (ngS r sm ch s k) (ngB r k (ngS r sm ch s k)) (ngE r sm ch (ngB r k (ngS r sm ch s k)))
def ngK (q : NG) : Prop := RZ q.1 q.2.1 ∧ (0 ≤ q.2.2.1 ∧ q.2.2.1 < 1000003) ∧ RZ q.2.2.2.1 q.2.2.2.2.1
theorem RS.fr2 {r : Int → Int} (h : RS r) : (0 ≤ r 32 ∧ r 32 ≤ 5) ∧ (0 ≤ r 35 ∧ r 35 ≤ 5) := by
  have p := h.2.2.2.1 0 (by decide) (by decide)
  have q := h.2.2.2.1 1 (by decide) (by decide)
  simp only [Int.mul_zero, Int.add_zero, Int.mul_one] at p q
  exact ⟨⟨p.2.2.2.2.1, p.2.2.2.2.2⟩, ⟨q.2.2.2.2.1, q.2.2.2.2.2⟩⟩
theorem mn5_ok {x : Int} (h : 0 ≤ x) : 0 ≤ mn5 x ∧ mn5 x < 6 := by unfold mn5; split <;> omega
theorem ngB_ok {r : Int → Int} {q : NG} (hV : RS r) (hq : ngK q) (k : Nat) : RZ (ngB r k q).1 (ngB r k q).2.1 ∧ 0 ≤ (ngB r k q).2.2 ∧ (ngB r k q).2.2 < 1000003 := by
  have hf := hV.fr2
  obtain ⟨h1, h2, ⟨h3, h4⟩, h5, h6⟩ := hq
  unfold ngB
  split
  · exact ⟨h1, h2.1, h2.2⟩
  · have d2 := @drw_ok (drw q.2.2.1)
    have m1 := Int.emod_nonneg (drw q.2.2.1) (show r 32 + 1 ≠ 0 by omega)
    have m2 := Int.emod_nonneg (drw (drw q.2.2.1)) (show r 35 + 1 ≠ 0 by omega)
    exact ⟨⟨mn5_ok (by omega), mn5_ok (by omega)⟩, d2.1, d2.2⟩
theorem ngS_ok {r : Int → Int} {sm : Int → LSm} {ch : Int → Int → Int → Int → Int} {s : Int} (hV : RS r) (hch : chR r ch) (hs : 0 ≤ s ∧ s < 1000003) : ∀ k : Nat, ngK (ngS r sm ch s k)
  | 0 => ⟨RZp hV, hs, ⟨⟨by show (0 : Int) ≤ 0; decide, by show (0 : Int) < 6; decide⟩, ⟨by show (0 : Int) ≤ 0; decide, by show (0 : Int) < 6; decide⟩⟩⟩
  | k + 1 => by
    have ih := ngS_ok (sm := sm) hV hch hs k
    have hb := ngB_ok hV ih k
    have he := evF_ok (sm := sm) hV hch 5 0 (-1) (ngB r k (ngS r sm ch s k)).1 (ngB r k (ngS r sm ch s k)).2.1 (ngB r k (ngS r sm ch s k)).2.2 NS0 hb.1 hb.2
    exact ⟨hb.1, ⟨he.2.2.2.1, he.2.2.2.2⟩, he.2.2.1⟩
section NT
variable {G : GG} {d : Nat} {M : MM} {Q : PV → MM → Prop} {r : Int → Int} {sm : Int → LSm}
theorem PL.kwd {w : Int} {M' : MM} (hw : w = 59 ∨ w = 63) (h : PL r sm M) (f : Fr (KWd w) M M') (hS : Sh M') (hC : CIn M' r sm) : PL r sm M' := by
  obtain ⟨h1, h2, h3, h4, h5, h6, h7, h8, h9, h10, h11, h12, h13⟩ := h
  have e : ∀ a j : Int, (30 ≤ a ∧ a ≤ 50) → rd M' a j = rd M a j := fun a j q => f.2.2 _ _ (by unfold KWd KTd; omega)
  have e1 : ∀ a : Int, (30 ≤ a ∧ a ≤ 50) → rd M' a = rd M a := fun a q => funext fun j => e a j q
  refine ⟨hS, hC, ⟨by rw [e _ _ (by decide)]; exact h3.1, by rw [e _ _ (by decide)]; exact h3.2⟩, h4.eq (e1 _ (by decide)) (e1 _ (by decide)) (e _ _ (by decide)), h5.eq (e1 _ (by decide)) (e _ _ (by decide)), by rw [e _ _ (by decide)]; exact h6, by rw [e _ _ (by decide)]; exact h7, by rw [e _ _ (by decide)]; exact h8, by rw [e _ _ (by decide)]; exact h9, by rw [e _ _ (by decide)]; exact h10, fun q => ?_, fun q => ?_, fun q => ?_⟩
  · rw [e _ _ (by decide)] at q
    rw [e 44 11 (by decide), e 44 10 (by decide), e 39 8 (by decide)]
    exact ⟨(h11 q).1.eq (e1 _ (by decide)) (e1 _ (by decide)) (e _ _ (by decide)), (h11 q).2⟩
  · rw [e _ _ (by decide)] at q
    exact (h12 q).eq (e _ _ (by decide)) (fun j => e _ _ (by decide))
  · rw [e _ _ (by decide)] at q
    exact (h13 q).eq (e _ _ (by decide)) (fun j => e _ _ (by decide)) (e1 _ (by decide))
/-- the chooser's contract, for evenings -/
theorem tch_get {c z o w : Int} (hw : w = 59 ∨ w = 63) (hP : PC r sm M) (hc : 0 ≤ c ∧ c ≤ 3) (h2 : c = 2 → tMk M 32 0 (-1) z o) (h3 : c = 3 → FxI (fixL r sm) M) :
    ∃ Rch I, tCh G r sm c (chC r sm c) Rch I ∧ I M ∧ (∀ M M', I M → Fr (KWd w) M M' → I M') ∧ (∀ p l z o a b : Int, NS p l → RZ z o → z + o ≠ 0 → Rch p l z o → chC r sm c p l z o ≠ -1 → r (12 + 3 * chC r sm c p l z o) ≠ 1 → spt z (chn r sm 0 (chC r sm c p l z o) p l z o) a → spt o (chn r sm 1 (chC r sm c p l z o) p l z o) b → Rch (sb p (chC r sm c p l z o)) (chC r sm c p l z o) a b) ∧ Rch 0 (-1) z o := by
  have hV := hP.2.1.1.2.1
  have hc' : c = 0 ∨ c = 1 ∨ c = 2 ∨ c = 3 := by omega
  rcases hc' with rfl | rfl | rfl | rfl
  · refine ⟨Top4, TopM, ?_, trivial, fun _ _ _ _ => trivial, fun _ _ _ _ _ _ _ _ _ _ _ _ _ _ => trivial, trivial⟩
    have e : chC r sm 0 = fun p _ _ _ => nxt r (bkf r) (r 3) p := by simp [chC]
    rw [e]
    intro M Q d p l z o hd hS hC _ hn hz hne _ h
    refine T_choose_row0 hS hC.1.1 hV hn.1 (by omega) ?_
    have h8 := hC.1.1.2.2.2.2.2.2.2.1
    have b3 := (bk_ok hV).2
    rw [nxt_congr (g := bkf r) hn.1 (fun i i0 i1 => h8 i i0 (by omega))]
    exact h M Fr.rf hC hS
  · refine ⟨Top4, TopM, ?_, trivial, fun _ _ _ _ => trivial, fun _ _ _ _ _ _ _ _ _ _ _ _ _ _ => trivial, trivial⟩
    have e : chC r sm 1 = mst r sm := by simp [chC]
    rw [e]
    intro M Q d p l z o hd hS hC _ hn hz hne _ h
    exact T_choose_mst hS hC hn hz.1 hz.2 hd h
  · have e : chC r sm 2 = aheadC r sm := by simp [chC]
    rw [e]
    have h0 := hP.2.2.2.1
    refine ⟨AhR r M, AhI r sm M, ?_, ⟨rfl, rfl, rfl⟩, fun M1 M' h f => ?_, fun p l z o a b hn hz hne hR hc hE ha hb => ?_, Or.inl (h2 rfl)⟩
    · intro M' Q d p l z o hd hS hC hI hn hz hne hR h
      have t1 := h0.1.1
      have t2 := h0.1.2.1
      refine T_choose_ahead hS hC.2.1 hn hz.1 hz.2 (by rw [hI.2.2]; exact ⟨by omega, by omega⟩) (by omega) ?_
      rw [hI.2.1, hI.2.2, ahd_at hV h0 hn hz hR]
      exact h M' Fr.rf hC hS
    · exact ⟨by rw [← h.1]; exact funext fun j => f.2.2 _ _ (by unfold KWd KTd; omega), by rw [← h.2.1]; exact funext fun j => f.2.2 _ _ (by unfold KWd KTd; omega), by rw [f.2.2 _ _ (by unfold KWd KTd; omega)]; exact h.2.2⟩
    · have hA := ahd_ok (sm := sm) hV hn.1 l z o
      have q := hA.2.2.1 hc
      have hm : tMk M 32 p l z o := by
        rcases hR with y | y
        · exact y
        · exact absurd (hA.2.2.2 y) hc
      by_cases q2 : canB r (sb p (aheadC r sm p l z o)) = 0
      · exact Or.inr q2
      · exact Or.inl (h0.2.2 p l z o _ a b hn hz hne hm ((cBs_iff hV hn.1 ⟨by omega, hA.2.1⟩).mpr q) hE (Or.inr q2) ha hb)
  · have hf := (fixL_ok sm hV).2.1
    refine ⟨Top4, FxI (fixL r sm), ?_, h3 rfl, fun M1 M' h f => ?_, fun _ _ _ _ _ _ _ _ _ _ _ _ _ _ => trivial, trivial⟩
    · have e : chC r sm 3 = fun p _ _ _ => nxt r (rowf (fixL r sm)) (fixL r sm).length p := by simp [chC]
      rw [e]
      intro M' Q d p l z o hd hS hC hI hn hz hne _ h
      have hl := hf.2.1
      have hI1 := hI.1
      refine T_choose_row3 hS hC.1.1 hV hn.1 ⟨by omega, by omega⟩ ?_ (by omega) ?_
      · rw [hI.1]
        exact ⟨fun i i0 i1 => by rw [hI.2 i i0 i1]; exact hf.1.1 i i0 i1, fun i j i0 ij j1 => by rw [hI.2 i i0 (by omega), hI.2 j (by omega) j1]; exact hf.1.2 i j i0 ij j1⟩
      · rw [hI.1, nxt_congr (g := rowf (fixL r sm)) hn.1 hI.2]
        exact h M' Fr.rf hC hS
    · exact h.eq (f.2.2 _ _ (by unfold KWd KTd; omega)) (fun j => f.2.2 _ _ (by unfold KWd KTd; omega))
theorem T_plays {w c z o s : Int} {E : EV} (hw : w = 59 ∨ w = 63) (hP : PL r sm M) (hc : 0 ≤ c ∧ c ≤ 3) (h2 : c = 2 → tMk M 32 0 (-1) z o) (h3 : c = 3 → rd M 39 8 = 1) (hz : RZ z o) (es : rd M w 3 = s) (hs : 0 ≤ s ∧ s < 1000003) (hE : evF r sm (chC r sm c) 5 0 (-1) z o s = E) (hd : 8 ≤ d)
    (h : ∀ M', Fr (KWd w) M M' → PL r sm M' → WDs M' w E.1 → rd M' w 8 = E.2.1 → rd M' w 9 = E.2.2.1 → rd M' w 3 = E.2.2.2 → Q vU M') : C G Y_X10_plays d 0 0 [vA w, vI c, vI z, vI o] M Q := by
  have hV := hP.2.1.1.2.1
  obtain ⟨Rch, I, a1, a2, a3, a4, a5⟩ := tch_get (G := G) (z := z) (o := o) hw hP.pc hc h2 (fun q => (hP.2.2.2.2.2.2.2.2.2.2.2.2 (h3 q)).1)
  exact T_X10_plays hw hP.1 hP.2.1 a2 a3 a1 (chC_R hV) a4 a5 hz es hs hE hd (fun M' f hS hC _ => h M' f (hP.kwd hw f hS hC))
def KNt (w a j : Int) : Prop := KZ 32 a j ∨ KWd w a j ∨ (a = w ∧ (j = 10 ∨ j = 11 ∨ j = 12))
theorem T_X10_playsNights {w n c s : Int} (hw : w = 59 ∨ w = 63) (hP : PL r sm M) (hn : 1 ≤ n ∧ n ≤ 60) (hc : 0 ≤ c ∧ c ≤ 3) (h3 : c = 3 → rd M 39 8 = 1) (es : rd M w 3 = s) (hs : 0 ≤ s ∧ s < 1000003) (hd : 26 ≤ d)
    (h : ∀ M', Fr (KNt w) M M' → PL r sm M' → rd M' w 10 = (ngS r sm (chC r sm c) s n.toNat).2.2.2.2.2.1 → rd M' w 11 = (ngS r sm (chC r sm c) s n.toNat).2.2.2.2.2.2.1 → rd M' w 12 = (ngS r sm (chC r sm c) s n.toNat).2.2.2.2.2.2.2 → Q vU M') : C G Y_X10_playsNights d 0 0 [vA w, vI n, vI c] M Q := by
  have hV := hP.2.1.1.2.1
  have hch := chC_R (sm := sm) hV (c := c)
  have hf := hV.fr2
  have h5 := HRp hP.2.1.1.1
  refine C_X10_playsNights (B_X10_playsNights_0 (by omega) hw hP.1 ?_)
  rw [h5.1, h5.2]
  intro v1 e1 v2 e2 M3 e3 hS3 M4 e4 hS4 M5 e5 hS5
  rw [e1, e2]
  generalize hcf : chC r sm c = ch at *
  -- the world's own sums
  have own : ∀ (Ma Mb : MM) (j v : Int), PL r sm Ma → (j = 10 ∨ j = 11 ∨ j = 12) → Mb = wr Ma w j v → Sh Mb → PL r sm Mb ∧ Fr (fun a i => a = w ∧ i = j) Ma Mb := by
    intro Ma Mb j v hPa hj e hS
    have f : Fr (fun a i => a = w ∧ i = j) Ma Mb := by rw [e]; exact Fr.rf.wr ⟨rfl, rfl⟩
    obtain ⟨h1, h2, h3', h4, h5, h6, h7, h8, h9, h10, h11, h12, h13⟩ := hPa
    have e : ∀ a i : Int, (30 ≤ a ∧ a ≤ 50) → rd Mb a i = rd Ma a i := fun a i q => f.2.2 _ _ (by omega)
    have e1 : ∀ a : Int, (30 ≤ a ∧ a ≤ 50) → rd Mb a = rd Ma a := fun a q => funext fun i => e a i q
    refine ⟨⟨hS, h2.fr f (fun a i q => by omega), ⟨by rw [e _ _ (by decide)]; exact h3'.1, by rw [e _ _ (by decide)]; exact h3'.2⟩, h4.eq (e1 _ (by decide)) (e1 _ (by decide)) (e _ _ (by decide)), h5.eq (e1 _ (by decide)) (e _ _ (by decide)), by rw [e _ _ (by decide)]; exact h6, by rw [e _ _ (by decide)]; exact h7, by rw [e _ _ (by decide)]; exact h8, by rw [e _ _ (by decide)]; exact h9, by rw [e _ _ (by decide)]; exact h10, fun q => ?_, fun q => ?_, fun q => ?_⟩, f⟩
    · rw [e _ _ (by decide)] at q
      rw [e 44 11 (by decide), e 44 10 (by decide), e 39 8 (by decide)]
      exact ⟨(h11 q).1.eq (e1 _ (by decide)) (e1 _ (by decide)) (e _ _ (by decide)), (h11 q).2⟩
    · rw [e _ _ (by decide)] at q
      exact (h12 q).eq (e _ _ (by decide)) (fun i => e _ _ (by decide))
    · rw [e _ _ (by decide)] at q
      exact (h13 q).eq (e _ _ (by decide)) (fun i => e _ _ (by decide)) (e1 _ (by decide))
  have kN : ∀ a j, KNt w a j → ¬ (a = 39 ∧ j = 8) := fun a j q => by unfold KNt KZ KWd KTd KX at q; omega
  have key : ∀ m k : Nat, (k : Int) + m = n → ∀ Mk, Fr (KNt w) M Mk → PL r sm Mk → rd Mk w 3 = (ngS r sm ch s k).2.2.1 → (k ≠ 0 → rd Mk w 8 = (ngS r sm ch s k).2.2.2.1 ∧ rd Mk w 9 = (ngS r sm ch s k).2.2.2.2.1) → rd Mk w 10 = (ngS r sm ch s k).2.2.2.2.2.1 → rd Mk w 11 = (ngS r sm ch s k).2.2.2.2.2.2.1 → rd Mk w 12 = (ngS r sm ch s k).2.2.2.2.2.2.2 →
      X G Y_X10_playsNights d 0 0 39 [vA w, vI n, vI c, vI (ngS r sm ch s k).1, vI (ngS r sm ch s k).2.1, vI k, vU] [] Mk Q := by
    intro m
    induction m with
    | zero =>
      intro k ek Mk fk hPk k3 k8 k10 k11 k12
      have : n.toNat = k := by omega
      rw [this] at h
      exact B_X10_playsNights_39 (by omega) hw hPk.1 ⟨⟨by omega, by omega⟩, ⟨by omega, by omega⟩, fun _ => h Mk fk hPk k10 k11 k12, fun q => by omega⟩
    | succ m ih =>
      intro k ek Mk fk hPk k3 k8 k10 k11 k12
      have hq := ngS_ok (sm := sm) hV hch hs k
      have hb := ngB_ok hV hq k
      generalize hqe : ngS r sm ch s k = q at *
      generalize hbe : ngB r k q = b at *
      have he := evF_ok (sm := sm) hV hch 5 0 (-1) b.1 b.2.1 b.2.2 NS0 hb.1 hb.2
      generalize hEe : evF r sm ch 5 0 (-1) b.1 b.2.1 b.2.2 = E at *
      have eS : ngS r sm ch s (k + 1) = ngN r q b E := by rw [ngS, hqe, hbe]; unfold ngE; rw [hEe]
      have b8 : ∀ Mb, Fr (KNt w) M Mb → rd Mb 39 8 = rd M 39 8 := fun Mb fb => fb.2.2 _ _ (fun y => kN _ _ y ⟨rfl, rfl⟩)
      -- from the evening on
      have k122 : ∀ Mb, Fr (KNt w) M Mb → PL r sm Mb → rd Mb w 3 = b.2.2 → (c = 2 → tMk Mb 32 0 (-1) b.1 b.2.1) → rd Mb w 10 = q.2.2.2.2.2.1 → rd Mb w 11 = q.2.2.2.2.2.2.1 → rd Mb w 12 = q.2.2.2.2.2.2.2 → X G Y_X10_playsNights d 0 0 122 [vA w, vI n, vI c, vI b.1, vI b.2.1, vI k, vU] [] Mb Q := by
        intro Mb fb hPb b3 bm b10 b11 b12
        refine B_X10_playsNights_122 (by omega) hw hPb.1 ?_
        refine T_plays (E := E) hw hPb hc bm (fun y => by rw [b8 Mb fb]; exact h3 y) hb.1 b3 hb.2 (by rw [hcf]; exact hEe) (by omega) (fun M1 f1 hP1 hW1 x8 x9 x3 => ?_)
        show Sh M1 ∧ _
        refine ⟨hP1.1, fun M2 e2 hS2 M3 e3 hS3 => ?_⟩
        obtain ⟨hP2, f2⟩ := own M1 M2 10 _ hP1 (Or.inl rfl) e2 hS2
        obtain ⟨hP3, f3⟩ := own M2 M3 11 _ hP2 (Or.inr (Or.inl rfl)) e3 hS3
        have z1 : ∀ j : Int, (j = 10 ∨ j = 11 ∨ j = 12) → rd M1 w j = rd Mb w j := fun j y => f1.2.2 _ _ (by unfold KWd KTd; omega)
        have z2 : ∀ a j : Int, ¬ (a = w ∧ j = 10) → rd M2 a j = rd M1 a j := fun a j y => f2.2.2 _ _ y
        have z3 : ∀ a j : Int, ¬ (a = w ∧ j = 11) → rd M3 a j = rd M2 a j := fun a j y => f3.2.2 _ _ y
        have g10 : rd M3 w 10 = q.2.2.2.2.2.1 + (b.1 + b.2.1) := by rw [z3 _ _ (by omega), e2, rd_wr, if_pos ⟨rfl, rfl⟩, z1 _ (by omega), b10]
        have g11 : rd M3 w 11 = q.2.2.2.2.2.2.1 + (E.2.1 + E.2.2.1) := by rw [e3, rd_wr, if_pos ⟨rfl, rfl⟩, z2 _ _ (by omega), z2 _ _ (by omega), z2 _ _ (by omega), z1 _ (by omega), b11, x8, x9]
        have g12 : rd M3 w 12 = q.2.2.2.2.2.2.2 := by rw [z3 _ _ (by omega), z2 _ _ (by omega), z1 _ (by omega), b12]
        have hW3 : WDs M3 w E.1 := ⟨by rw [z3 _ _ (by omega), z2 _ _ (by omega)]; exact hW1.1, fun i hi => by rw [z3 _ _ (by omega), z3 _ _ (by omega), z3 _ _ (by omega), z2 _ _ (by omega), z2 _ _ (by omega), z2 _ _ (by omega)]; exact hW1.2 i hi⟩
        have f3' : Fr (KNt w) M M3 := ((fb.tr (f1.mono (fun a j y => Or.inr (Or.inl y)))).tr (f2.mono (fun a j y => Or.inr (Or.inr (by omega))))).tr (f3.mono (fun a j y => Or.inr (Or.inr (by omega))))
        have sit : ∀ m2 i : Nat, i + m2 = E.1.length → ∀ Mi, Fr (KNt w) M Mi → PL r sm Mi → Fr (fun a j => a = w ∧ j = 12) M3 Mi → rd Mi w 12 = q.2.2.2.2.2.2.2 + sitN r E.1 i → X G Y_X10_playsNights d 0 0 164 [vA w, vI n, vI c, vI b.1, vI b.2.1, vI k, vI i] [] Mi Q := by
          intro m2
          induction m2 with
          | zero =>
            intro i ei Mi fi hPi fi3 i12
            have zi : ∀ a j : Int, ¬ (a = w ∧ j = 12) → rd Mi a j = rd M3 a j := fun a j y => fi3.2.2 _ _ y
            have h7 : rd Mi w 7 = E.1.length := by rw [zi _ _ (by omega)]; exact hW3.1
            have hl := he.1
            refine B_X10_playsNights_164 (by omega) hw hPi.1 ?_
            rw [h7]
            refine ⟨⟨by omega, by omega⟩, ⟨by omega, by omega⟩, fun _ => ?_, fun y => by omega⟩
            have := ih (k + 1) (by omega) Mi fi hPi (by rw [eS, zi _ _ (by omega), z3 _ _ (by omega), z2 _ _ (by omega)]; exact x3) (fun _ => by rw [eS, zi _ _ (by omega), zi _ _ (by omega), z3 _ _ (by omega), z3 _ _ (by omega), z2 _ _ (by omega), z2 _ _ (by omega)]; exact ⟨x8, x9⟩) (by rw [eS, zi _ _ (by omega)]; exact g10) (by rw [eS, zi _ _ (by omega)]; exact g11) (by rw [eS, i12, show i = E.1.length by omega]; rfl)
            rw [eS] at this
            exact this
          | succ m2 ihm =>
            intro i ei Mi fi hPi fi3 i12
            have zi : ∀ a j : Int, ¬ (a = w ∧ j = 12) → rd Mi a j = rd M3 a j := fun a j y => fi3.2.2 _ _ y
            have h7 : rd Mi w 7 = E.1.length := by rw [zi _ _ (by omega)]; exact hW3.1
            have hl := he.1
            have hx := hW3.2 i (by omega)
            have hm : (E.1.getD i (0, 0, 0)) ∈ E.1 := by
              rw [List.getD_eq_getElem?_getD, List.getElem?_eq_getElem (by omega : i < E.1.length)]
              exact List.getElem_mem _
            have hs5 := he.2.1 _ hm
            have e2' : rd Mi 2 (E.1.getD i (0, 0, 0)).1 = r (10 + 3 * (E.1.getD i (0, 0, 0)).1) := (hPi.2.1.1.1.2.1 _ hs5.1 hs5.2).1
            refine B_X10_playsNights_164 (by omega) hw hPi.1 ?_
            rw [h7, zi (w + 1) i (by omega), zi (w + 2) i (by omega), zi (w + 3) i (by omega), hx.1, hx.2.1, hx.2.2, e2', i12]
            refine ⟨⟨by omega, by omega⟩, ⟨by omega, by omega⟩, fun y => by omega, fun _ => ⟨by omega, by omega, hs5.1, hs5.2, fun M7 e7 hS7 => ?_⟩⟩
            obtain ⟨hP7, f7⟩ := own Mi M7 12 _ hPi (Or.inr (Or.inr rfl)) e7 hS7
            exact ihm (i + 1) (by omega) M7 (fi.tr (f7.mono (fun a j y => Or.inr (Or.inr (by omega))))) hP7 (fi3.tr f7) (by rw [e7, rd_wr, if_pos ⟨rfl, rfl⟩, sitN, Int.add_assoc])
        exact sit E.1.length 0 (by omega) M3 f3' hP3 Fr.rf (by rw [g12]; exact (Int.add_zero _).symm)
      have k101 : ∀ Mb, Fr (KNt w) M Mb → PL r sm Mb → rd Mb w 3 = b.2.2 → rd Mb w 10 = q.2.2.2.2.2.1 → rd Mb w 11 = q.2.2.2.2.2.2.1 → rd Mb w 12 = q.2.2.2.2.2.2.2 → X G Y_X10_playsNights d 0 0 101 [vA w, vI n, vI c, vI b.1, vI b.2.1, vI k, vU] [] Mb Q := by
        intro Mb fb hPb b3 b10 b11 b12
        refine B_X10_playsNights_101 (by omega) hw hPb.1 ⟨⟨by omega, by omega⟩, fun y => k122 Mb fb hPb b3 (fun y2 => absurd y2 y) b10 b11 b12, fun y => ?_⟩
        refine T_ahead0 hPb hb.1 (by omega) (fun M2 hP2 f2 m2 _ => ?_)
        show Sh M2 ∧ _
        have z2 : ∀ a j : Int, 59 ≤ a → rd M2 a j = rd Mb a j := fun a j y => f2.2.2 _ _ (by unfold KZ KTd KX; omega)
        exact ⟨hP2.1, k122 M2 (fb.tr (f2.mono (fun a j y => Or.inl y))) hP2 (by rw [z2 _ _ (by omega)]; exact b3) (fun _ => m2) (by rw [z2 _ _ (by omega)]; exact b10) (by rw [z2 _ _ (by omega)]; exact b11) (by rw [z2 _ _ (by omega)]; exact b12)⟩
      refine B_X10_playsNights_39 (by omega) hw hPk.1 ⟨⟨by omega, by omega⟩, ⟨by omega, by omega⟩, fun y => by omega, fun _ => ⟨fun y => ?_, fun y => ?_⟩⟩
      · have k0 : k = 0 := by omega
        have eb : b = (q.1, q.2.1, q.2.2.1) := by rw [← hbe]; unfold ngB; rw [if_pos k0]
        have := k101 Mk fk hPk (by rw [k3, eb]) k10 k11 k12
        rw [eb] at this
        exact this
      · have k0 : k ≠ 0 := by omega
        obtain ⟨k8', k9'⟩ := k8 k0
        have eb : b = (mn5 (q.2.2.2.1 + drw q.2.2.1 % (r 32 + 1)), mn5 (q.2.2.2.2.1 + drw (drw q.2.2.1) % (r 35 + 1)), drw (drw q.2.2.1)) := by rw [← hbe]; unfold ngB; rw [if_neg k0]
        obtain ⟨q1, q2, ⟨q3, q3'⟩, q4, q4'⟩ := hq
        have e70 : rd Mk 7 0 = r 32 := (hPk.2.1.1.1.2.2.1 0 (by decide) (by decide)).2.2
        rw [e70, k8']
        refine T_X10_draw hw hPk.1 k3 q2 ⟨by omega, by omega⟩ (by omega) (fun M3 e3 hS3 => ?_)
        show Sh M3 ∧ _
        have f3 : Fr (fun a j => a = w ∧ j = 3) Mk M3 := by rw [e3]; exact Fr.rf.wr ⟨rfl, rfl⟩
        have z3 : ∀ a j : Int, ¬ (a = w ∧ j = 3) → rd M3 a j = rd Mk a j := fun a j y2 => f3.2.2 _ _ y2
        have d1 := @drw_ok q.2.2.1
        have d2 := @drw_ok (drw q.2.2.1)
        have m1 := Int.emod_nonneg (drw q.2.2.1) (show r 32 + 1 ≠ 0 by omega)
        have m2 := Int.emod_nonneg (drw (drw q.2.2.1)) (show r 35 + 1 ≠ 0 by omega)
        have m3 := Int.emod_lt_of_pos (drw q.2.2.1) (show 0 < r 32 + 1 by omega)
        have m4 := Int.emod_lt_of_pos (drw (drw q.2.2.1)) (show 0 < r 35 + 1 by omega)
        refine ⟨hS3, ⟨by omega, by omega⟩, fun v6 e6 => ?_⟩
        have e71 : rd M3 7 1 = r 35 := by rw [z3 _ _ (by omega)]; exact (hPk.2.1.1.1.2.2.1 1 (by decide) (by decide)).2.2
        rw [e71, z3 w 9 (by omega), k9']
        refine T_X10_draw hw hS3 (s := drw q.2.2.1) (by rw [e3, rd_wr, if_pos ⟨rfl, rfl⟩]) d1 ⟨by omega, by omega⟩ (by omega) (fun M7 e7 hS7 => ?_)
        show Sh M7 ∧ _
        refine ⟨hS7, ⟨by omega, by omega⟩, fun v10 e10 => ?_⟩
        have f7 : Fr (fun a j => a = w ∧ j = 3) Mk M7 := by rw [e7]; exact f3.wr ⟨rfl, rfl⟩
        have z7 : ∀ a j : Int, ¬ (a = w ∧ j = 3) → rd M7 a j = rd Mk a j := fun a j y2 => f7.2.2 _ _ y2
        have hP7 : PL r sm M7 := hPk.kwd hw (f7.mono (fun a j y2 => by unfold KWd; omega)) hS7 (hPk.2.1.fr f7 (fun a j y2 => by omega))
        have := k101 M7 (fk.tr (f7.mono (fun a j y2 => Or.inr (Or.inl (by unfold KWd; omega))))) hP7 (by rw [e7, rd_wr, if_pos ⟨rfl, rfl⟩, eb]) (by rw [z7 _ _ (by omega)]; exact k10) (by rw [z7 _ _ (by omega)]; exact k11) (by rw [z7 _ _ (by omega)]; exact k12)
        have x1 : v6 = b.1 := by rw [e6, eb]; rfl
        have x2 : v10 = b.2.1 := by rw [e10, eb]; rfl
        rw [x1, x2]
        exact this
  have f5 : Fr (fun a j => a = w ∧ (j = 10 ∨ j = 11 ∨ j = 12)) M M5 := by rw [e5, e4, e3]; exact ((Fr.rf.wr ⟨rfl, Or.inl rfl⟩).wr ⟨rfl, Or.inr (Or.inl rfl)⟩).wr ⟨rfl, Or.inr (Or.inr rfl)⟩
  have hP5 := (own M4 M5 12 _ ((own M3 M4 11 _ ((own M M3 10 _ hP (Or.inl rfl) e3 hS3).1) (Or.inr (Or.inl rfl)) e4 hS4).1) (Or.inr (Or.inr rfl)) e5 hS5).1
  exact key n.toNat 0 (by omega) M5 (f5.mono (fun a j y => Or.inr (Or.inr y))) hP5 (by rw [f5.2.2 _ _ (by omega)]; exact es) (fun y => absurd rfl y) (by rw [e5, rd_wr, if_neg (by omega), e4, rd_wr, if_neg (by omega), e3, rd_wr, if_pos ⟨rfl, rfl⟩]; rfl) (by rw [e5, rd_wr, if_neg (by omega), e4, rd_wr, if_pos ⟨rfl, rfl⟩]; rfl) (by rw [e5, rd_wr, if_pos ⟨rfl, rfl⟩]; rfl)
end NT
