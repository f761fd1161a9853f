/-! ===== pairs of calls: the next scene, evenings ===== -/
theorem bt_lt {p s n : Int} (p0 : 0 ≤ p) (p1 : p < iShl 1 n) (n0 : 0 ≤ n) (n5 : n ≤ 5) (s0 : 0 ≤ s) (s5 : s < 5) (h : bt p s = 1) : s < n := by
  have := shl_ok n0 n5
  exact fin3 (P := fun p s n => p < iShl 1 n → bt p s = 1 → s < n) 32 5 6 (by decide +kernel) p0 (by omega) s0 s5 n0 (by omega) p1 h
theorem bt_z {s : Int} (s0 : 0 ≤ s) (s5 : s < 5) : bt 0 s ≠ 1 := finI (P := fun s => bt 0 s ≠ 1) 5 (by decide +kernel) s0 s5
section QN
variable {G : GG} {d : Nat} {M M' : MM} {Q : PV → MM → Prop} {r : Int → Int} {sm : Int → LSm} {s tx : Int → Int} {L L' : List (Int × Int × Int)} {ri : Int → Int → Int} {si : Int → Int → LSm} {q q' c : Int}
theorem chM (hM : MI r sm s tx L ri si M) (hc : 0 ≤ c ∧ c ≤ 3) (hd : 12 ≤ d) (h : ∀ M', MI r sm s tx L ri si M' → Fr KMd M M' → MCh r sm c M' → Q vU M') : C G Y_X12_choose d 0 0 [vA 67, vI c] M Q := by
  refine T_X12_choose hM.1 hM.mok hM.2.2.2.2.1.1 hc hd (fun M' CH f hS hCH hv h3 => h M' (hM.scr f (fun a j z => KG_sc z) hS) (f.mono (fun a j z => KG_md z)) ⟨fun w p l z o hVS hz => ?_, fun w => ?_⟩)
  · rw [hM.2.1] at hv hCH
    rw [hv p l z o hVS hz.1.1 hz.1.2 hz.2.1 hz.2.2]
    unfold chC
    rcases w with w | w
    · rw [hCH.2.2.1 w, if_neg (by omega), if_pos w]
    · rw [hCH.2.2.2 w, if_neg (by omega), if_neg (by omega), if_pos w]
  · rw [hM.2.1] at h3; exact h3 w
theorem PL.td (hP : PL r sm M) (f : Fr KTd M M') (hS : Sh M') (hC : CIn M' r sm) : PL r sm M' := hP.kwd (w := 59) (Or.inl rfl) (f.mono (fun _ _ => Or.inl)) hS hC
theorem P_next {x1 x2 x3 x4 x5 : Int} (h1 : inR x1) (h2 : inR x2) (h3 : inR x3) (h4 : inR x4) (h5 : inR x5) (hq : 0 ≤ q ∧ q ≤ 1000) (h : INV q M) (hd : 60 ≤ d) : PR G d 0 0 Y_X11_next Y_X12_next [vI x1, vI x2, vI x3, vI x4, vI x5] q M := by
  obtain ⟨r, sm, s, tx, L, ri, si, hC, hM⟩ := h
  unfold PR
  have hV := hM.2.2.1.1
  have v0 := hV.1
  have v5 := hV.2.1
  have hp := RZp hV
  have hsh := shl_ok v0 v5
  have hO := hC.1.2.1.1
  have e0 : rd M 1 0 = r 0 := hO.1.1
  have e50 : rd M 5 0 = r 30 := (hO.1.2.2.1 0 (by decide) (by decide)).1
  have e51 : rd M 5 1 = r 33 := (hO.1.2.2.1 1 (by decide) (by decide)).1
  have p30 : 0 ≤ r 30 ∧ r 30 < 6 := hp.1
  have p33 : 0 ≤ r 33 ∧ r 33 < 6 := hp.2
  have lat : (0 ≤ x2 ∧ x2 < iShl 1 (r 0)) → (((x2 = 0 ∧ x3 = -1) ∨ (x2 ≠ 0 ∧ 0 ≤ x3 ∧ x3 < 5 ∧ bt x2 x3 = 1)) ↔ ((-1 ≤ x3 ∧ x3 ≤ r 0 - 1) ∧ isStt x2 x3)) := by
    intro hx2
    constructor
    · rintro (⟨a, b⟩ | ⟨a, b, c, e⟩)
      · exact ⟨⟨by omega, by omega⟩, Or.inl ⟨b, a⟩⟩
      · have := bt_lt hx2.1 hx2.2 v0 v5 b c e
        exact ⟨⟨by omega, by omega⟩, Or.inr ⟨by omega, e⟩⟩
    · rintro ⟨⟨a, b⟩, c | c⟩
      · exact Or.inl ⟨c.2, c.1⟩
      · refine Or.inr ⟨fun z => ?_, by omega, by omega, c.2⟩
        have e := c.2
        rw [z] at e
        exact bt_z (by omega) (by omega) e
  have N : ¬ ((0 ≤ x1 ∧ x1 ≤ 3) ∧ (0 ≤ x2 ∧ x2 < iShl 1 (r 0)) ∧ ((-1 ≤ x3 ∧ x3 ≤ r 0 - 1) ∧ isStt x2 x3) ∧ (0 ≤ x4 ∧ x4 ≤ r 30) ∧ (0 ≤ x5 ∧ x5 ≤ r 33) ∧ x4 + x5 ≠ 0) → CM G Y_X12_next d [vA 67, vI x1, vI x2, vI x3, vI x4, vI x5] M (rI (fun v' M2 => v' = -1 ∧ INV (q + 1) M2)) := by
    intro hn
    have g104 : ∀ x6, X G Y_X12_next d 0 0 104 [vA 67, vI x1, vI x2, vI x3, vI x4, vI x5, vI x6, vU] [] (wr M 67 0 0) (rI (fun v' M2 => v' = -1 ∧ INV (q + 1) M2)) := fun x6 => B_X12_next_104 (by omega) (sW_67_0 hM.1) ⟨rfl, fin_thr hC hM⟩
    have g72 := B_X12_next_72 (G := G) (d := d) (k := 0) (n := 0) (by omega) (sW_67_0 hM.1) (g104 0)
    have er : rd (wr M 67 0 0) 69 = r := hM.thr.2.1
    refine CM.of hM.1 ?_
    refine C_X12_next (B_X12_next_0 (by omega) hM.1 (fun N1 g1 k1 => ?_))
    subst g1
    rw [er]
    exact ⟨h1, fun _ => g72, fun a1 => ⟨h2, ⟨by omega, by omega⟩, fun _ => g72, fun a2 => ⟨h4, ⟨by omega, by omega⟩, fun _ => g72, fun a4 => ⟨h5, ⟨by omega, by omega⟩, fun _ => g72, fun a5 => ⟨h3, ⟨by omega, by omega⟩, ⟨by omega, by omega⟩, fun _ => g104 1, fun a3 => ⟨⟨by omega, by omega⟩, fun _ => ⟨rfl, fin_thr hC hM⟩, fun w => absurd ⟨a1, ⟨a2.1, by omega⟩, ⟨a3, Decidable.byContradiction fun z => w (Or.inl z)⟩, a4, a5, fun z => w (Or.inr z)⟩ hn⟩⟩⟩⟩⟩⟩
  have Y : (0 ≤ x1 ∧ x1 ≤ 3) → (0 ≤ x2 ∧ x2 < iShl 1 (r 0)) → ((-1 ≤ x3 ∧ x3 ≤ r 0 - 1) ∧ isStt x2 x3) → (0 ≤ x4 ∧ x4 ≤ r 30) → (0 ≤ x5 ∧ x5 ≤ r 33) → x4 + x5 ≠ 0 → ∀ M1, CI (q + 1) r sm s tx L ri si M1 → MI r sm s tx L ri si M1 → CM G Y_X12_next d [vA 67, vI x1, vI x2, vI x3, vI x4, vI x5] M1 (rI (fun v' M2 => v' = chC r sm x1 x2 x3 x4 x5 ∧ INV (q + 1) M2)) := by
    intro a1 a2 a3 a4 a5 a6 M1 c1 m1
    have er : rd (wr M1 67 0 0) 69 = r := m1.thr.2.1
    have hVS : VS (r 0) x2 x3 := ⟨a2.1, a2.2, a3.1.1, by omega, a3.2⟩
    have hz : RZ x4 x5 := ⟨⟨by omega, by omega⟩, by omega, by omega⟩
    refine CM.of m1.1 ?_
    refine C_X12_next (B_X12_next_0 (by omega) m1.1 (fun N1 g1 k1 => ?_))
    subst g1
    rw [er]
    refine ⟨h1, fun w => absurd a1 w, fun _ => ⟨h2, ⟨by omega, by omega⟩, fun w => absurd ⟨a2.1, by omega⟩ w, fun _ => ⟨h4, ⟨by omega, by omega⟩, fun w => absurd a4 w, fun _ => ⟨h5, ⟨by omega, by omega⟩, fun w => absurd a5 w, fun _ => ⟨h3, ⟨by omega, by omega⟩, ⟨by omega, by omega⟩, fun w => absurd a3.1 w, fun _ => ⟨⟨by omega, by omega⟩, fun w => absurd w (fun z => z.elim (fun y => y a3.2) (fun y => a6 y)), fun _ => ?_⟩⟩⟩⟩⟩⟩
    refine chM m1.thr a1 (by omega) (fun N21 n21 f21 mc => ⟨n21.1, fun w0 => ⟨fun w3 => ?_, fun w3 => ?_⟩, fun w0 => ?_⟩)
    · refine ⟨by omega, by omega, fun v24 e24 => ⟨?_, INV.mk' c1 n21 ((Fr.rf.wr (K := KMd) ⟨by decide, by decide⟩).tr f21) (fun a j z => z)⟩⟩
      rw [e24]
      exact mc.1 (by omega) x2 x3 x4 x5 hVS hz
    · obtain ⟨b1, b2⟩ := mc.2 w3
      obtain ⟨-, hnd, -⟩ := fixL_ok sm hV
      have hl := hnd.2.1
      rw [b1]
      refine T_X12_nextOf (f := rowf (fixL r sm)) n21.1 (by rw [n21.2.1]; exact hV) (fun i i0 i1 => ⟨sA_89 n21.1 (by omega) (by omega), by rw [Int.zero_add]; exact b2 i i0 i1⟩) hnd.1 ⟨by omega, by omega⟩ ⟨by omega, by omega⟩ (by omega) ⟨n21.1, ?_, INV.mk' c1 n21 ((Fr.rf.wr (K := KMd) ⟨by decide, by decide⟩).tr f21) (fun a j z => z)⟩
      rw [n21.2.1]
      unfold chC
      rw [if_neg (by omega), if_neg (by omega), if_neg (by omega)]
    · obtain ⟨hR, b1, b2⟩ := bk_ok hV
      rw [n21.2.1]
      refine T_X12_nextOf (f := bkf r) n21.1 (by rw [n21.2.1]; exact hV) (fun i i0 i1 => ⟨sA_69 n21.1 (by omega) (by omega), by rw [n21.2.1]; rfl⟩) hR ⟨by omega, by omega⟩ ⟨by omega, by omega⟩ (by omega) ⟨n21.1, ?_, INV.mk' c1 n21 ((Fr.rf.wr (K := KMd) ⟨by decide, by decide⟩).tr f21) (fun a j z => z)⟩
      rw [n21.2.1]
      unfold chC
      rw [if_pos w0]
  have T : (0 ≤ x1 ∧ x1 ≤ 3) → (0 ≤ x2 ∧ x2 < iShl 1 (r 0)) → ((-1 ≤ x3 ∧ x3 ≤ r 0 - 1) ∧ isStt x2 x3) → (0 ≤ x4 ∧ x4 ≤ r 30) → (0 ≤ x5 ∧ x5 ≤ r 33) → x4 + x5 ≠ 0 → ∀ M3 q', CI q' r sm s tx L ri si M3 → q' ≤ q + 1 → Fr (fun a _ => a < 67) M M3 → (x1 = 3 → FxK r sm M3) → X G Y_X11_next d 0 0 90 [vA 0, vI x1, vI x2, vI x3, vI x4, vI x5] [] M3 (rI (fun v M1 => CM G Y_X12_next d [vA 67, vI x1, vI x2, vI x3, vI x4, vI x5] M1 (rI (fun v' M2 => v' = v ∧ INV (q + 1) M2)))) := by
    intro a1 a2 a3 a4 a5 a6 M3 q' c3 hq' f3 hF3
    have hn : NS x2 x3 := ⟨⟨a2.1, by omega⟩, ⟨a3.1.1, by omega⟩, a3.2⟩
    have hz : RZ x4 x5 := ⟨⟨by omega, by omega⟩, by omega, by omega⟩
    have K : ∀ M', CI (q + 1) r sm s tx L ri si M' → Fr (fun a _ => a < 67) M M' → CM G Y_X12_next d [vA 67, vI x1, vI x2, vI x3, vI x4, vI x5] M' (rI (fun v' M2 => v' = chC r sm x1 x2 x3 x4 x5 ∧ INV (q + 1) M2)) := fun M' c' f' => Y a1 a2 a3 a4 a5 a6 M' c' (hM.fc f' (fun a j z => z) c'.1.1)
    refine B_X11_next_90 (by omega) c3.1.1 ⟨h1, fun w2 => ?_, fun w2 => ⟨a2.1, by omega, ?_⟩⟩
    · have hx1 : x1 = 0 ∨ x1 = 1 ∨ x1 = 3 := by omega
      rcases hx1 with rfl | rfl | rfl
      · refine T_choose_row0 c3.1.1 c3.1.2.1.1.1 hV hn.1 (by omega) ⟨c3.1.1, ?_⟩
        have h8 := c3.1.2.1.1.1.2.2.2.2.2.2.2.1
        have b3 := (bk_ok hV).2
        rw [nxt_congr (g := bkf r) hn.1 (fun i i0 i1 => h8 i i0 (by omega))]
        exact K M3 (c3.up hq') f3
      · refine T_choose_mst c3.1.1 c3.1.2.1 hn hz.1 hz.2 (by omega) (fun M' f' i' s' => ⟨s', ?_⟩)
        have h9 := c3.2.2.1
        exact K M' (c3.to (c3.1.td f' s' i') f' (fun a j z => by unfold KTd at z; omega) (by rw [f'.2.2 32 9 (by unfold KTd; omega), f'.2.2 44 9 (by unfold KTd; omega)]; omega)) (f3.tr (f'.mono (fun a j z => by unfold KTd at z; omega)))
      · have hf := (fixL_ok sm hV).2.1
        have hl := hf.2.1
        have hI := (hF3 rfl).1
        have hI1 := hI.1
        refine T_choose_row3 c3.1.1 c3.1.2.1.1.1 hV hn.1 ⟨by omega, by omega⟩ ?_ (by omega) ⟨c3.1.1, ?_⟩
        · rw [hI.1]
          exact ⟨fun i i0 i1 => by rw [hI.2 i i0 i1]; exact hf.1.1 i i0 i1, fun i j i0 ij j1 => by rw [hI.2 i i0 (by omega), hI.2 j (by omega) j1]; exact hf.1.2 i j i0 ij j1⟩
        · rw [hI.1, nxt_congr (g := rowf (fixL r sm)) hn.1 hI.2]
          exact K M3 (c3.up hq') f3
    · subst w2
      refine T_ahead c3.1 hn hz (by omega) (fun M6 P6 f6 t6 _ => ⟨P6.1, ?_⟩)
      have h9 := c3.2.2.1
      have t0 := P6.2.2.2.1
      have t1 := t0.1.1
      have t2 := t0.1.2.1
      have e9 : ∀ j, rd M6 32 j = rd M3 32 j := fun j => f6.2.2 32 j (by unfold KZ KTd KX; omega)
      refine T_choose_ahead P6.1 P6.2.1.2.1 hn hz.1 hz.2 ⟨by omega, by omega⟩ (by omega) ⟨P6.1, ?_⟩
      rw [ahd_at hV t0 hn hz (Or.inl t6)]
      exact K M6 (c3.to P6 f6 (fun a j z => KPl_ok (KZ_Pl (Or.inl rfl) z)) (by rw [e9 9, f6.2.2 44 9 (by unfold KZ KTd KX; omega)]; omega)) (f3.tr (f6.mono (fun a j z => KPl_67 (KZ_Pl (Or.inl rfl) z))))
  refine C_X11_next (B_X11_next_0 (by omega) hC.1.1 ?_)
  rw [e0, e50, e51]
  refine ⟨h1, fun c => N (fun z => c z.1), fun c => ⟨h2, fun c2 => N (fun z => c2 z.2.1), fun c2 => ⟨h3, fun c3 => ⟨h4, fun c4 => N (fun z => by omega), fun c4 => ⟨⟨by omega, by omega⟩, fun c5 => N (fun z => by omega), fun c5 => ⟨h5, fun c6 => N (fun z => by omega), fun c6 => ⟨⟨by omega, by omega⟩, fun c7 => ⟨⟨by omega, by omega⟩, fun c8 => ⟨fun c9 => ?_, fun c9 => ?_⟩, fun c8 => N (fun z => z.2.2.2.2.2 c8)⟩, fun c7 => N (fun z => by omega)⟩⟩⟩⟩, fun c3 => N (fun z => c3 ((lat c2).mpr z.2.2.1))⟩⟩⟩
  · exact T c c2 ((lat c2).mp c3) ⟨c4, c5⟩ ⟨c6, c7⟩ c8 M q hC (by omega) Fr.rf (fun z => absurd z c9)
  · exact qF hC hq (by omega) (fun M6 C6 f6 h8 hF b6 => ⟨C6.1.1, T c c2 ((lat c2).mp c3) ⟨c4, c5⟩ ⟨c6, c7⟩ c8 M6 (q + 1) C6 (by omega) (f6.mono (fun a j z => KPl_67 z)) (fun _ => hF)⟩)
/-! evenings -/
theorem CI.ran {K : Int → Int → Prop} (h : CI q r sm s tx L ri si M) (hP : PL r sm M') (f : Fr K M M') (hK : ∀ a j, K a j → a < 94 ∧ a ≠ 0 ∧ a ≠ 9 ∧ a ≠ 13 ∧ a ≠ 14 ∧ a ≠ 15 ∧ a ≠ 20) (hW : WDs M' 59 L') (h9 : rd M' 32 9 ≤ 1 + 200 * q' ∧ rd M' 44 9 ≤ 1 + 200 * q') : CI q' r sm s tx L' ri si M' := by
  obtain ⟨a1, ⟨b1, b2, b3, b4, b5, b6, b7⟩, c1, d1, e1, f1⟩ := h
  have e : ∀ a j : Int, (a = 0 ∨ a = 14 ∨ a = 15 ∨ a = 20) → rd M' a j = rd M a j := fun a j w => f.2.2 a j (fun z => by have := hK a j z; omega)
  have kp := f.kp (fun a j z => by have := hK a j z; omega)
  exact ⟨hP, ⟨fun j => by rw [e 14 j (by omega)]; exact b1 j, by rw [e 0 _ (by omega)]; exact b2, by rw [e 0 _ (by omega)]; exact b3, by rw [e 0 _ (by omega)]; exact b4, by rw [e 0 _ (by omega)]; exact b5, fun i i0 i1 => by rw [e 15 _ (by omega)]; exact b6 i i0 i1, by rw [e 20 _ (by omega)]; exact b7⟩, h9, hW, e1.kp kp, f1.kp kp e1 (fun _ _ => rfl)⟩
theorem MI.ran {K : Int → Int → Prop} (h : MI r sm s tx L ri si M) (f : Fr K M M') (hK : ∀ a j, K a j → KSc a j ∨ a = 93 ∨ (a = 67 ∧ j = 52)) (hS : Sh M') (hR : RNm M' L') : MI r sm s tx L' ri si M' := by
  obtain ⟨a1, a2, a3, ⟨b1, b2, b3, b4, b5, b6, b7, b8, b9, b10⟩, ⟨c1, c2⟩, d1, e1, f1⟩ := h
  have e : ∀ a j, ¬ KSc a j → a ≠ 93 → ¬ (a = 67 ∧ j = 52) → rd M' a j = rd M a j := fun a j w w2 w3 => f.2.2 a j (fun z => (hK a j z).elim w (fun y => y.elim w2 w3))
  refine ⟨hS, by rw [← a2]; exact funext fun j => e 69 j (by unfold KSc; omega) (by decide) (by omega), a3, ⟨fun j => by rw [e 72 j (by unfold KSc; omega) (by decide) (by omega)]; exact b1 j, ?_, ?_, ?_, ?_, ?_, ?_, ?_, ?_, ?_⟩, ⟨?_, fun k k0 k1 => ?_⟩, hR, fun k hk => ?_, f1⟩
  · rw [e _ _ (by unfold KSc; omega) (by decide) (by omega)]; exact b2
  · rw [e _ _ (by unfold KSc; omega) (by decide) (by omega)]; exact b3
  · rw [e _ _ (by unfold KSc; omega) (by decide) (by omega)]; exact b4
  · rw [e _ _ (by unfold KSc; omega) (by decide) (by omega)]; exact b5
  · rw [e _ _ (by unfold KSc; omega) (by decide) (by omega)]; exact b6
  · rw [e _ _ (by unfold KSc; omega) (by decide) (by omega)]; exact b7
  · rw [e _ _ (by unfold KSc; omega) (by decide) (by omega)]; exact b8
  · rw [e _ _ (by unfold KSc; omega) (by decide) (by omega)]; exact b9
  · rw [e _ _ (by unfold KSc; omega) (by decide) (by omega)]; exact b10
  · rw [e _ _ (by unfold KSc; omega) (by decide) (by omega)]; exact c1
  · rw [e _ _ (by unfold KSc; omega) (by decide) (by omega)]; exact c2 k k0 k1
  · rw [e _ _ (by unfold KSc; omega) (by decide) (by omega)]
    exact ⟨(e1 k hk).1, fun w => ⟨fun i i0 i1 => by rw [e _ _ (by unfold KSc; omega) (by decide) (by omega)]; exact ((e1 k hk).2 w).1 i i0 i1, ((e1 k hk).2 w).2⟩⟩
theorem P_ran {x y : Int} (hx : inR x) (hy : inR y) (h : INV q M) (hd : 60 ≤ d) : PR G d 0 0 Y_X11_ran Y_X12_ran [vI x, vI y] q M := by
  obtain ⟨r, sm, s, tx, L, ri, si, hC, hM⟩ := h
  unfold PR
  obtain ⟨w7, wd⟩ := hC.2.2.2.1
  obtain ⟨r52, r5, rr⟩ := hM.2.2.2.2.2.1
  have z52 : rd (wr M 67 0 0) 67 52 = rd M 67 52 := by rw [rd_wr, if_neg (by decide)]
  have b52 : -1 ≤ rd M 67 52 ∧ rd M 67 52 ≤ 5 ∧ (rd M 67 52 = L.length ∨ (rd M 67 52 = -1 ∧ L.length = 0)) := by
    rcases r52 with ⟨a, b⟩ | a
    · rw [a, b]; exact ⟨by decide, by decide, Or.inr ⟨rfl, rfl⟩⟩
    · rw [a]; exact ⟨by omega, by omega, Or.inl rfl⟩
  have mdl : ∀ v, (¬ ((0 ≤ x ∧ x < L.length) ∧ (0 ≤ y ∧ y ≤ 2)) → v = -1) → (((0 ≤ x ∧ x < L.length) ∧ (0 ≤ y ∧ y ≤ 2)) → v = rd M 93 (3 * x + y)) → CM G Y_X12_ran d [vA 67, vI x, vI y] M (rI (fun v' M2 => v' = v ∧ INV (q + 1) M2)) := by
    intro v vN vY
    refine CM.of hM.1 ?_
    refine C_X12_ran (B_X12_ran_0 (by omega) hM.1 (fun N1 g1 k1 => ?_))
    subst g1
    rw [z52]
    refine ⟨hx, ⟨by omega, by omega⟩, ⟨by omega, by omega⟩, fun w => ⟨(vN (by omega)).symm, fin_thr hC hM⟩, fun w => ⟨hy, fun w2 => ⟨(vN (fun z => w2 z.2)).symm, fin_thr hC hM⟩, fun w2 => ⟨by omega, by omega, ?_, fin_thr hC hM⟩⟩⟩
    rw [rd_wr, if_neg (by omega)]
    exact (vY ⟨by omega, w2⟩).symm
  refine C_X11_ran (B_X11_ran_0 (by omega) hC.1.1 ?_)
  rw [w7]
  refine ⟨hx, fun c => mdl _ (fun _ => rfl) (fun z => by omega), fun c => ⟨⟨by omega, by omega⟩, fun c2 => mdl _ (fun _ => rfl) (fun z => by omega), fun c2 => ⟨hy, fun c3 => mdl _ (fun _ => rfl) (fun z => by omega), fun c3 => ⟨fun c4 v19 e19 => ?_, fun c4 => mdl _ (fun _ => rfl) (fun z => by omega)⟩⟩⟩⟩
  have hi : x.toNat < L.length := by omega
  have q1 := wd x.toNat hi
  have q2 := rr x.toNat hi
  rw [show ((x.toNat : Nat) : Int) = x by omega] at q1 q2
  have hv : (v19 = 60 ∧ y = 0) ∨ (v19 = 61 ∧ y = 1) ∨ (v19 = 62 ∧ y = 2) := by
    by_cases a : y = 0
    · rw [if_neg (fun z => z a)] at e19; omega
    · rw [if_pos a] at e19
      by_cases b : y = 1
      · rw [if_neg (fun z => z b)] at e19; omega
      · rw [if_pos b] at e19; omega
  rcases hv with ⟨a, b⟩ | ⟨a, b⟩ | ⟨a, b⟩
  · rw [a]; exact ⟨sA_60 hC.1.1 (by omega) (by omega), mdl _ (fun z => absurd ⟨⟨c, c2⟩, c3, c4⟩ z) (fun _ => by rw [b, Int.add_zero, q2.1]; exact q1.1)⟩
  · rw [a]; exact ⟨sA_61 hC.1.1 (by omega) (by omega), mdl _ (fun z => absurd ⟨⟨c, c2⟩, c3, c4⟩ z) (fun _ => by rw [b, q2.2.1]; exact q1.2.1)⟩
  · rw [a]; exact ⟨sA_62 hC.1.1 (by omega) (by omega), mdl _ (fun z => absurd ⟨⟨c, c2⟩, c3, c4⟩ z) (fun _ => by rw [b, q2.2.2]; exact q1.2.2)⟩
end QN
