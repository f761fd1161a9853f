/-! ===== pairs of calls, the simple ones ===== -/
section PH
variable {M M' : MM} {r r' : Int → Int} {sm sm' : Int → LSm} {s tx : Int → Int} {L : List (Int × Int × Int)} {ri : Int → Int → Int} {si : Int → Int → LSm} {q : Int}
theorem CKp.eq (h : CKp M r sm) (e6 : rd M' 25 6 = rd M 25 6) (e : ∀ j, rd M' 29 j = rd M 29 j) : CKp M' r sm := by
  unfold CKp
  rw [e6]
  rcases h with w | ⟨w, w2⟩
  · exact Or.inl w
  · exact Or.inr ⟨w, fun p l s z o a1 a2 a3 a4 a5 a6 a7 a8 => by rw [e]; exact w2 p l s z o a1 a2 a3 a4 a5 a6 a7 a8⟩
/-- the house has changed where the plan does not look -/
theorem PL_hs (hP : PL r sm M) (h : Ag r r' sm sm') (e : ∀ a j : Int, (25 ≤ a ∧ a ≤ 50) → ¬ (a = 39 ∧ j = 4) → rd M' a j = rd M a j) (hS : Sh M') (hC : COK M' r' sm') (hb : rd M' 39 4 = 0 ∨ (rd M' 39 4 = rd M 39 4 ∧ r' 3 = r 3 ∧ ∀ j : Int, 45 ≤ j → j ≤ 49 → r' j = r j)) : PL r' sm' M' := by
  obtain ⟨h1, h2, h3, h4, h5, h6, h7, h8, h9, h10, h11, h12, h13⟩ := hP
  have hV := h2.1.2.1
  have e1 : ∀ a : Int, (25 ≤ a ∧ a ≤ 50) → a ≠ 39 → rd M' a = rd M a := fun a w w2 => funext fun j => e a j w (fun z => w2 z.1)
  have k2 : CKp M' r sm := h2.2.2.eq (e _ _ (by decide) (by decide)) (fun j => e _ _ (by decide) (by omega))
  refine ⟨hS, ⟨hC, fun i i0 i1 => ?_, CKp_ag hV h.1 k2⟩, ⟨by rw [e _ _ (by decide) (by decide)]; exact h3.1, by rw [e _ _ (by decide) (by decide)]; exact h3.2⟩, ?_, h5.eq (e1 _ (by decide) (by decide)) (e _ _ (by decide) (by decide)), by rw [e _ _ (by decide) (by decide)]; exact h6, by rw [e _ _ (by decide) (by decide)]; exact h7, ?_, by rw [e _ _ (by decide) (by decide)]; exact h9, by rw [e _ _ (by decide) (by decide)]; exact h10, fun w => ?_, fun w => ?_, fun w => ?_⟩
  · rw [e1 26 (by decide) (by decide), e1 27 (by decide) (by decide), e1 28 (by decide) (by decide)]; exact h2.2.1 i i0 i1
  · rw [cBs_ag hV h]; exact tIn_ag hV h cBs_R.1 (h4.eq (e1 _ (by decide) (by decide)) (e1 _ (by decide) (by decide)) (e _ _ (by decide) (by decide)))
  · rcases hb with w | ⟨w, -⟩
    · exact Or.inl w
    · rw [w]; exact h8
  · rcases hb with z | ⟨z, hb⟩
    · rw [z] at w; exact absurd w (by decide)
    · rw [z] at w
      have g := h11 w
      rw [e 44 11 (by decide) (by decide), e 44 10 (by decide) (by decide), e 39 8 (by decide) (by decide)]
      exact ⟨tIn_ag hV h (canC_R _) (tIn_can (canC_R _) (canC_ag hV h hb.1 hb.2 _) (g.1.eq (e1 _ (by decide) (by decide)) (e1 _ (by decide) (by decide)) (e _ _ (by decide) (by decide)))), g.2⟩
  · rw [e _ _ (by decide) (by decide)] at w
    rw [allR_ag hV h]; exact (h12 w).eq (e _ _ (by decide) (by decide)) (fun j => e _ _ (by decide) (by omega))
  · rw [e _ _ (by decide) (by decide)] at w
    have g := (h13 w).eq (e _ _ (by decide) (by decide)) (fun j => e _ _ (by decide) (by omega)) (e1 41 (by decide) (by decide))
    unfold FxK at g ⊢
    rw [fixL_ag hV h, wR_ag hV h]; exact g
theorem COK_wr {c i k v : Int} (h : COK M r sm) (hc : cor c i k) (hk : k ≠ 1) (hr : RS (upF r k v)) : COK (wr M c i v) (upF r k v) sm := ⟨HR_wr h.1 hc, hr, fun l l0 l1 => by
  rw [upF_ne (by omega)] at l1
  exact (h.2.2.frK (Fr.rf.wr (K := fun a _ => a = c) rfl) (fun a j z => by unfold cor at hc; omega)) l l0 l1⟩
theorem PW_wr {c i v : Int} (h : PW M) (hc : c < 26) (hS : Sh (wr M c i v)) : PW (wr M c i v) := h.fr (Fr.rf.wr (K := fun a _ => a = c) rfl) (fun a j z => by omega) hS
theorem CI.w0 {i v : Int} (hi : i = 3 ∨ i = 4 ∨ i = 5) (h : CI q r sm s tx L ri si M) : CI q r sm (upF s i v) tx L ri si (wr M 0 i v) := by
  have f : Fr (fun a _ => a = 0) M (wr M 0 i v) := Fr.rf.wr rfl
  obtain ⟨a1, ⟨b1, b2, b3, b4, b5, b6, b7⟩, c1, d1, e1, f1⟩ := h
  have kp := f.kp (fun a j z => by omega)
  have hS : Sh (wr M 0 i v) := by
    rcases hi with rfl | rfl | rfl
    · exact sW_0_3 a1.1
    · exact sW_0_4 a1.1
    · exact sW_0_5 a1.1
  have key : ∀ j : Int, (j = 3 ∨ j = 4 ∨ j = 5 ∨ j = 7) → rd M 0 j = s j → rd (wr M 0 i v) 0 j = upF s i v j := fun j _ g => by
    rw [rd_wr]; unfold upF
    by_cases w : j = i
    · rw [if_pos ⟨rfl, w⟩, if_pos w]
    · rw [if_neg (fun z => w z.2), if_neg w]; exact g
  exact ⟨a1.frM f (fun a j z => by omega) hS, ⟨b1, key 3 (by decide) b2, key 4 (by decide) b3, key 5 (by decide) b4, key 7 (by decide) b5, fun j j0 j1 => by rw [upF_ne (by omega)]; exact b6 j j0 j1, b7⟩, c1, d1, e1.kp kp, f1.kp kp e1 (fun k hk => upF_ne (by omega))⟩
theorem CI.tp {i v : Int} (h : CI q r sm s tx L ri si M) : CI q r sm s (upF tx i v) L ri si (wr M 14 i v) := by
  have f : Fr (fun a _ => a = 14) M (wr M 14 i v) := Fr.rf.wr rfl
  obtain ⟨a1, ⟨b1, b2, b3, b4, b5, b6, b7⟩, c1, d1, e1, f1⟩ := h
  have kp := f.kp (fun a j z => by omega)
  refine ⟨a1.frM f (fun a j z => by omega) (sW_14 a1.1), ⟨fun j => ?_, b2, b3, b4, b5, b6, b7⟩, c1, d1, e1.kp kp, f1.kp kp e1 (fun _ _ => rfl)⟩
  rw [rd_wr]; unfold upF
  by_cases w : j = i
  · rw [if_pos ⟨rfl, w⟩, if_pos w]
  · rw [if_neg (fun z => w z.2), if_neg w]; exact b1 j
theorem MI.w67 {i j v : Int} (hij : (i = 3 ∧ j = 8 ∧ 0 ≤ v ∧ v ≤ 400) ∨ (i = 4 ∧ j = 6) ∨ (i = 5 ∧ j = 13)) (h : MI r sm s tx L ri si M) : MI r sm (upF s i v) tx L ri si (wr M 67 j v) := by
  obtain ⟨a1, a2, a3, ⟨b1, b2, b3, b4, b5, b6, b7, b8, b9, b10⟩, ⟨c1, c2⟩, ⟨d1, d2, d3⟩, e1, f1, f2, f3, f4⟩ := h
  have hS : Sh (wr M 67 j v) := by
    rcases hij with ⟨-, rfl, -⟩ | ⟨-, rfl⟩ | ⟨-, rfl⟩
    · exact sW_67_8 a1
    · exact sW_67_6 a1
    · exact sW_67_13 a1
  have key : ∀ i' j' : Int, (i' = i ↔ j' = j) → rd M 67 j' = s i' → rd (wr M 67 j v) 67 j' = upF s i v i' := fun i' j' e g => by
    rw [rd_wr]; unfold upF
    by_cases w : i' = i
    · rw [if_pos ⟨rfl, e.mp w⟩, if_pos w]
    · rw [if_neg (fun z => w (e.mpr z.2)), if_neg w]; exact g
  have o : ∀ a j', a ≠ 67 → rd (wr M 67 j v) a j' = rd M a j' := fun a j' w => by rw [rd_wr, if_neg (fun z => w z.1)]
  have o2 : ∀ j', j' ≠ j → rd (wr M 67 j v) 67 j' = rd M 67 j' := fun j' w => by rw [rd_wr, if_neg (fun z => w z.2)]
  have u : ∀ i', i' ≠ 3 → i' ≠ 4 → i' ≠ 5 → upF s i v i' = s i' := fun i' w1 w2 w3 => upF_ne (by omega)
  refine ⟨hS, a2, a3, ⟨b1, key 3 8 (by omega) b2, key 4 6 (by omega) b3, key 5 13 (by omega) b4, key 7 1 (by omega) b5, ?_, ?_, ?_, ?_, ?_⟩, ⟨by rw [o2 _ (by omega)]; exact c1, c2⟩, ⟨by rw [o2 _ (by omega)]; exact d1, d2, d3⟩, fun k hk => ?_, f1, ?_, f3, fun k hk => ?_⟩
  · rw [u _ (by decide) (by decide) (by decide)]; exact b6
  · rw [u _ (by decide) (by decide) (by decide)]; exact b7
  · rw [u _ (by decide) (by decide) (by decide)]; exact b8
  · rw [u _ (by decide) (by decide) (by decide)]; exact b9
  · rw [u _ (by decide) (by decide) (by decide)]; exact b10
  · rw [u _ (by omega) (by omega) (by omega)]; exact e1 k hk
  · rcases hij with ⟨rfl, -, w⟩ | ⟨rfl, -⟩ | ⟨rfl, -⟩
    · rw [upF_eq]; exact w
    · rw [upF_ne (by decide)]; exact f2
    · rw [upF_ne (by decide)]; exact f2
  · rw [u _ (by omega) (by omega) (by omega)]; exact f4 k hk
theorem MI.tp {i v : Int} (hv : 0 ≤ v ∧ v ≤ 255) (h : MI r sm s tx L ri si M) : MI r sm s (upF tx i v) L ri si (wr M 72 i v) := by
  obtain ⟨a1, a2, a3, ⟨b1, b2⟩, c1, d1, e1, f1, f2, f3, f4⟩ := h
  refine ⟨sW_72 a1, a2, a3, ⟨fun j => ?_, b2⟩, c1, d1, e1, f1, f2, fun j => ?_, f4⟩
  · rw [rd_wr]; unfold upF
    by_cases w : j = i
    · rw [if_pos ⟨rfl, w⟩, if_pos w]
    · rw [if_neg (fun z => w z.2), if_neg w]; exact b1 j
  · unfold upF
    by_cases w : j = i
    · rw [if_pos w]; exact hv
    · rw [if_neg w]; exact f3 j
/-- the model's row has changed at one place -/
theorem MI.rw {k v : Int} (h : MI r sm s tx L ri si M) (h0 : 0 ≤ k ∧ k < 60 ∧ k ≠ 1) (hr : RS (upF r k v)) : MI (upF r k v) sm s tx L ri si (wr M 69 k v) := by
  obtain ⟨a1, a2, a3, b, c1, d1, e1, f1, f2⟩ := h
  refine ⟨sW_69 a1, funext fun j => ?_, ⟨hr, a3.2.up h0.2.1 h0.2.2⟩, b, c1, d1, e1, f1.up h0.1 (by omega), f2⟩
  rw [rd_wr, a2]; unfold upF
  by_cases w : j = k
  · rw [if_pos ⟨rfl, w⟩, if_pos w]
  · rw [if_neg (fun z => w z.2), if_neg w]
/-- the model's row at a place that holds nothing yet, or whose rule is given later: the numbers alone -/
theorem iAnd255 (x : Int) : 0 ≤ iAnd x 255 ∧ iAnd x 255 ≤ 255 := by
  have h : (Int32.ofInt x &&& Int32.ofInt 255).toBitVec.toNat ≤ 255 := by
    rw [Int32.toBitVec_and, BitVec.toNat_and]
    exact Nat.and_le_right
  unfold iAnd
  rw [← Int32.toInt_toBitVec, BitVec.toInt_eq_toNat_cond]
  split <;> omega
end PH
section PA
variable {G : GG} {d : Nat} {M : MM} {q : Int}
theorem P_cut (h : INV q M) (hd : 60 ≤ d) : PR G d 0 0 Y_X11_cut Y_X12_cut [] q M := by
  obtain ⟨r, sm, s, tx, L, ri, si, hC, hM⟩ := h
  unfold PR
  refine S_X11_cut hC.1.1 (by omega) ?_
  show CM G Y_X12_cut d [vA 67] M _
  refine CM.of hM.1 ?_
  refine C_X12_cut (B_X12_cut_0 (by omega) hM.1 (fun M1 e1 s1 => ?_))
  subst e1
  exact ⟨by rw [rd_wr, if_neg (by decide), hM.2.2.2.1.2.2.1, hC.2.1.2.2.1], fin_thr hC hM⟩
theorem P_fault (h : INV q M) (hd : 60 ≤ d) : PR G d 0 0 Y_X11_fault Y_X12_fault [] q M := by
  obtain ⟨r, sm, s, tx, L, ri, si, hC, hM⟩ := h
  unfold PR
  refine S_X11_fault hC.1.1 (by omega) ?_
  show CM G Y_X12_fault d [vA 67] M _
  refine CM.of hM.1 ?_
  refine C_X12_fault (B_X12_fault_0 (by omega) hM.1 (fun M1 e1 s1 => ?_))
  subst e1
  exact ⟨by rw [rd_wr, if_neg (by decide), hM.2.2.2.1.2.2.2.1, hC.2.1.2.2.2.1], fin_thr hC hM⟩
theorem P_status (h : INV q M) (hd : 60 ≤ d) : PR G d 0 0 Y_X11_status Y_X12_status [] q M := by
  obtain ⟨r, sm, s, tx, L, ri, si, hC, hM⟩ := h
  unfold PR
  refine S_X11_status hC.1.1 (by omega) ?_
  show CM G Y_X12_status d [vA 67] M _
  refine CM.of hM.1 ?_
  refine C_X12_status (B_X12_status_0 (by omega) hM.1 (fun M1 e1 s1 => ?_))
  subst e1
  exact ⟨by rw [rd_wr, if_neg (by decide), hM.2.2.2.1.2.2.2.2.1, hC.2.1.2.2.2.2.1], fin_thr hC hM⟩
def cntV (r s : Int → Int) (x : Int) : Int := if x = 0 then r 0 else if x = 1 then r 1 else if x = 2 then r 3 else if x = 3 then r 4 else if x = 4 then s 3 else if x = 5 then s 10 else if x = 6 then s 11 else if x = 7 then s 12 else if x = 8 then s 13 else if x = 9 then s 14 else if x = 10 then r 2 else -1
theorem P_count {x : Int} (hx : inR x) (h : INV q M) (hd : 60 ≤ d) : PR G d 0 0 Y_X11_count Y_X12_count [vI x] q M := by
  obtain ⟨r, sm, s, tx, L, ri, si, hC, hM⟩ := h
  unfold PR
  have er := hM.2.1
  obtain ⟨-, b2, b3, b4, b5, b6, b7, b8, b9, b10⟩ := hM.2.2.2.1
  have key : ∀ v, v = cntV r s x → CM G Y_X12_count d [vA 67, vI x] M (rI (fun v' M2 => v' = v ∧ INV (q + 1) M2)) := by
    intro v ev
    have w : ∀ a j, ¬ (a = 67 ∧ j = 0) → rd (wr M 67 0 0) a j = rd M a j := fun a j z => by rw [rd_wr, if_neg z]
    refine CM.of hM.1 ?_
    refine C_X12_count (B_X12_count_0 (by omega) hM.1 (fun M1 e1 s1 => ⟨hx, fun c => ?_, fun c => ?_, fun c => ?_, fun c => ?_, fun c => ?_, fun c => ?_, fun c => ?_, fun c => ?_, fun c => ?_, fun c => ?_, fun c => ?_, fun c => ?_⟩))
    all_goals subst e1
    · refine ⟨?_, fin_thr hC hM⟩
      rw [ev]; unfold cntV
      rw [if_neg (by omega), if_neg (by omega), if_neg (by omega), if_neg (by omega), if_neg (by omega), if_neg (by omega), if_neg (by omega), if_neg (by omega), if_neg (by omega), if_neg (by omega), if_neg (by omega)]
    all_goals (refine ⟨?_, fin_thr hC hM⟩; rw [w _ _ (by decide), ev]; subst c)
    · rw [er]; rfl
    · rw [er]; rfl
    · rw [er]; rfl
    · rw [er]; rfl
    · exact b2
    · exact b6
    · exact b7
    · exact b8
    · exact b9
    · exact b10
    · rw [er]; rfl
  obtain ⟨⟨hP1, hP2, -⟩, ⟨-, c2, c3, c4, c5, c6, -⟩, -⟩ := hC
  have hH := hP2.1.1
  have g105 : (x < 0 ∨ 10 < x ∨ (5 ≤ x ∧ x ≤ 9)) → X G Y_X11_count d 0 0 105 [vA 0, vI x] [] M (rI (fun v M1 => CM G Y_X12_count d [vA 67, vI x] M1 (rI (fun v' M2 => v' = v ∧ INV (q + 1) M2)))) := by
    intro hh
    refine B_X11_count_105 (by omega) hP1 ⟨hx, fun c => key _ ?_, fun c => ⟨by omega, by omega, key _ ?_⟩⟩
    · unfold cntV
      rw [if_neg (by omega), if_neg (by omega), if_neg (by omega), if_neg (by omega), if_neg (by omega), if_neg (by omega), if_neg (by omega), if_neg (by omega), if_neg (by omega), if_neg (by omega), if_neg (by omega)]
    · have hx5 : x = 5 ∨ x = 6 ∨ x = 7 ∨ x = 8 ∨ x = 9 := by omega
      rw [c6 _ (by omega) (by omega)]
      rcases hx5 with rfl | rfl | rfl | rfl | rfl <;> rfl
  refine C_X11_count (B_X11_count_0 (by omega) hP1 ⟨hx, fun c => g105 (by omega), fun c => key _ ?_, fun c => key _ ?_, fun c => key _ ?_, fun c => key _ ?_, fun c => key _ ?_, fun c => g105 (by omega), fun c => g105 (by omega), fun c => g105 (by omega), fun c => g105 (by omega), fun c => g105 (by omega), fun c => key _ ?_⟩)
  · subst c; exact hH.1
  · subst c; exact hH.2.2.2.2.1
  · subst c; exact hH.2.2.2.2.2.2.1
  · subst c; exact hH.2.2.2.2.2.2.2.2.1
  · subst c; exact c2
  · subst c; exact hH.2.2.2.2.2.1
theorem P_end {x : Int} (hx : inR x) (h : INV q M) (hd : 60 ≤ d) : PR G d 0 0 Y_X11_end Y_X12_end [vI x] q M := by
  obtain ⟨r, sm, s, tx, L, ri, si, hC, hM⟩ := h
  unfold PR
  have e3 := hC.2.1.2.1
  have e8 := hM.2.2.2.1.2.1
  have hb := hM.2.2.2.2.2.2.2.2.1
  refine C_X11_end (B_X11_end_0 (by omega) hC.1.1 ⟨hx, by rw [e3]; exact ⟨by omega, by omega⟩, fun c => ?_, fun c M11 e11 s11 => ?_⟩)
  · show CM G Y_X12_end d [vA 67, vI x] M _
    refine CM.of hM.1 ?_
    refine C_X12_end (B_X12_end_0 (by omega) hM.1 (fun M1 e1 s1 => ?_))
    subst e1
    have w : rd (wr M 67 0 0) 67 8 = s 3 := by rw [rd_wr, if_neg (by decide)]; exact e8
    exact ⟨hx, by rw [w]; exact ⟨by omega, by omega⟩, fun _ => ⟨rfl, fin_thr hC hM⟩, fun z => absurd (by rw [w]; rw [e3] at c; exact c) z⟩
  · subst e11
    rw [e3] at c
    have hM1 : MI r sm s tx L ri si (wr M 0 3 x) := hM.fc (Fr.rf.wr (K := fun a _ => a < 67) (by decide)) (fun a j z => z) s11
    show CM G Y_X12_end d [vA 67, vI x] (wr M 0 3 x) _
    refine CM.of s11 ?_
    refine C_X12_end (B_X12_end_0 (by omega) s11 (fun M1 e1 s1 => ?_))
    subst e1
    have w : rd (wr (wr M 0 3 x) 67 0 0) 67 8 = s 3 := by rw [rd_wr, if_neg (by decide), rd_wr, if_neg (by decide)]; exact e8
    refine ⟨hx, by rw [w]; exact ⟨by omega, by omega⟩, fun z => absurd (by rw [w] at z; exact z) c, fun _ M12 e12 s12 => ⟨rfl, ?_⟩⟩
    subst e12
    exact INV.mk' ((hC.w0 (v := x) (Or.inl rfl)).up (by omega)) (hM1.thr.w67 (Or.inl ⟨rfl, rfl, by omega, by omega⟩)) ((Fr.rf.wr (K := KMd) ⟨by decide, by decide⟩).wr ⟨by decide, by decide⟩) (fun a j z => z)
theorem iShl_b {n : Int} (h0 : 0 ≤ n) (h5 : n ≤ 5) : 1 ≤ iShl 1 n ∧ iShl 1 n ≤ 32 := finI (P := fun n => 1 ≤ iShl 1 n ∧ iShl 1 n ≤ 32) 6 (by decide +kernel) h0 (by omega)
theorem P_can {x : Int} (hx : inR x) (h : INV q M) (hd : 60 ≤ d) : PR G d 0 0 Y_X11_can Y_X12_can [vI x] q M := by
  obtain ⟨r, sm, s, tx, L, ri, si, hC, hM⟩ := h
  unfold PR
  have hH := hC.1.2.1.1.1
  have hV := hC.1.2.1.1.2.1
  have er := hM.2.1
  have hsh := iShl_b hV.1 hV.2.1
  have w69 : rd (wr M 67 0 0) 69 = r := by rw [← er]; exact funext fun j => by rw [rd_wr, if_neg (by omega)]
  have e0 := hH.1
  refine C_X11_can (B_X11_can_0 (r := r) (by omega) hC.1.1 ⟨hx, fun c => ?_, fun c => ?_⟩)
  · rw [e0] at c
    show CM G Y_X12_can d [vA 67, vI x] M _
    refine CM.of hM.1 ?_
    refine C_X12_can (B_X12_can_0 (by omega) hM.1 (fun M1 e1 s1 => ?_))
    subst e1
    rw [w69]
    exact ⟨hx, ⟨by omega, by omega⟩, fun _ => ⟨rfl, fin_thr hC hM⟩, fun z => absurd ⟨z.1, by omega⟩ c⟩
  · rw [e0] at c
    refine ⟨hH, hV, ⟨by omega, by omega⟩, ?_⟩
    show CM G Y_X12_can d [vA 67, vI x] M _
    refine CM.of hM.1 ?_
    refine C_X12_can (B_X12_can_0 (by omega) hM.1 (fun M1 e1 s1 => ?_))
    subst e1
    rw [w69]
    exact ⟨hx, ⟨by omega, by omega⟩, fun z => absurd ⟨c.1, by omega⟩ z, fun _ => ⟨hV, ⟨by omega, by omega⟩, rfl, fin_thr hC hM⟩⟩
end PA
