/-! ===== pairs of calls: heads behind a scene ===== -/
section ST5
variable {G : GG} {d : Nat} {M : MM} {Q : PV → MM → Prop} {r : Int → Int} {sm : Int → LSm} {s tx : Int → Int} {L : List (Int × Int × Int)} {ri : Int → Int → Int} {si : Int → Int → LSm} {q x hh : Int}
theorem hd_row {r : Int → Int} (hV : RS r) : RowOk (fun i => r (50 + i)) (r 4) ∧ 0 ≤ r 4 ∧ r 4 ≤ 5 := by
  have v5 := hV.2.1
  obtain ⟨_, _, _, _, _, _, _, _, _, _, _, _, _, _, _, _, _, _, h0, h5, _, _, _, hb, hdst⟩ := hV
  exact ⟨⟨fun i i0 i1 => by have := hb i i0 i1; show 0 ≤ r (50 + i) ∧ r (50 + i) < 5; omega, fun i j i0 i1 i2 => hdst i j i0 i1 i2⟩, h0, h5⟩
theorem styM {good : Prop} (hM : MI r sm s tx L ri si M) (hx : inR x) (hd : 2 ≤ d) (hx2 : 0 ≤ x ∧ x < r 0)
    (hY : good → X G Y_X12_stayed d 0 0 101 [vA 67, vI x, vI hh, vI (r 4), vI 1, vI (r 4)] [] M Q) (hN : ¬ good → X G Y_X12_stayed d 0 0 101 [vA 67, vI x, vI hh, vI (r 4), vI 0, vI (r 4)] [] M Q) :
    ∀ (m : Nat) (i b : Int), (r 4 - i).toNat = m → 0 ≤ i → i ≤ r 4 → (b = 0 ∨ b = 1) → ((b = 1 ∧ ∀ j : Int, i ≤ j → j < r 4 → r (50 + j) ≠ x) ↔ good) → X G Y_X12_stayed d 0 0 101 [vA 67, vI x, vI hh, vI (r 4), vI b, vI i] [] M Q := by
  have hV := hM.2.2.1.1
  have er := hM.2.1
  have v5 := hV.2.1
  obtain ⟨_, _, _, _, _, _, _, _, _, _, _, _, _, _, _, _, _, _, h0, h5, _, _, _, hb, hdst⟩ := hV
  intro m
  induction m with
  | zero =>
    intro i b hm i0 i1 hb01 hg
    have ei : i = r 4 := by omega
    rw [ei] at hg ⊢
    rcases hb01 with w | w
    · rw [w]; exact hN (fun z => by have := (hg.mpr z).1; omega)
    · rw [w]; exact hY (hg.mp ⟨w, fun j j0 j1 => by omega⟩)
  | succ m ih =>
    intro i b hm i0 i1 hb01 hg
    have hbi := hb i i0 (by omega)
    refine B_X12_stayed_101 hd hM.1 ?_
    rw [er]
    refine ⟨⟨by omega, by omega⟩, ⟨by omega, by omega⟩, fun w => by omega, fun w => ⟨⟨by omega, by omega⟩, fun w2 => ih (i + 1) 0 (by omega) (by omega) (by omega) (Or.inl rfl) ⟨fun z => absurd z.1 (by decide), fun z => by have := (hg.mpr z).1; omega⟩, fun w2 => ⟨by omega, by omega, ⟨by omega, by omega⟩, hx, fun v23 e23 => ?_⟩⟩⟩
    have b1 : b = 1 := by omega
    by_cases z : r (50 + i) = x
    · rw [if_neg (fun y => y z)] at e23
      rw [e23]
      exact ih (i + 1) 0 (by omega) (by omega) (by omega) (Or.inl rfl) ⟨fun y => absurd y.1 (by decide), fun y => absurd z ((hg.mpr y).2 i (by omega) (by omega))⟩
    · rw [if_pos z] at e23
      rw [e23]
      refine ih (i + 1) 1 (by omega) (by omega) (by omega) (Or.inr rfl) ⟨fun y => hg.mp ⟨b1, fun j j0 j1 => ?_⟩, fun y => ⟨rfl, fun j j0 j1 => (hg.mpr y).2 j (by omega) j1⟩⟩
      by_cases e : j = i
      · rw [e]; exact z
      · exact y.2 j (by omega) j1
theorem P_stayed (hx : inR x) (hh2 : inR hh) (h : INV q M) (hd : 60 ≤ d) : PR G d 0 0 Y_X11_stayed Y_X12_stayed [vI x, vI hh] q M := by
  obtain ⟨r, sm, s, tx, L, ri, si, hC, hM⟩ := h
  unfold PR
  have hO := hC.1.2.1.1
  have hV := hM.2.2.1.1
  have v0 := hV.1
  have v5 := hV.2.1
  obtain ⟨hrow, h40, h45⟩ := hd_row hV
  have e0 : rd M 1 0 = r 0 := hO.1.1
  have e16 : rd M 1 16 = r 4 := hO.1.2.2.2.2.2.2.2.2.1
  have hr5 : -1 ≤ r 5 ∧ r 5 ≤ 10 := by obtain ⟨_, _, _, _, _, _, _, _, _, _, _, _, _, _, _, _, _, _, _, _, a, b, _⟩ := hV; exact ⟨a, b⟩
  have hcs : ∀ j : Int, 0 ≤ j → j < r 4 → 0 ≤ r (55 + j) ∧ r (55 + j) ≤ 10 := fun j j0 j1 => by
    obtain ⟨_, _, _, _, _, _, _, _, _, _, _, _, _, _, _, _, _, _, _, _, _, _, _, hb, _⟩ := hV
    have := hb j j0 j1; omega
  -- the model, where the numbers are good
  have mdl : ∀ (M1 : MM) (Qm : PV → MM → Prop), MI r sm s tx L ri si M1 → (0 ≤ x ∧ x < r 0) → (0 ≤ hh ∧ hh ≤ 10) →
      ((r 5 ≠ -1 ∧ hh ≤ (if r 4 = 0 then r 5 else r (55 + (r 4 - 1))) ∧ inRow (fun i => r (50 + i)) x (r 4) = false) → X G Y_X12_stayed d 0 0 101 [vA 67, vI x, vI hh, vI (r 4), vI 1, vI (r 4)] [] (wr M1 67 0 0) Qm) →
      (¬ (r 5 ≠ -1 ∧ hh ≤ (if r 4 = 0 then r 5 else r (55 + (r 4 - 1))) ∧ inRow (fun i => r (50 + i)) x (r 4) = false) → X G Y_X12_stayed d 0 0 101 [vA 67, vI x, vI hh, vI (r 4), vI 0, vI (r 4)] [] (wr M1 67 0 0) Qm) → CM G Y_X12_stayed d [vA 67, vI x, vI hh] M1 Qm := by
    intro M1 Qm m1 c1 c2 hY hN
    have n1 := m1.thr (v := 0)
    have z : rd (wr M1 67 0 0) 69 = r := n1.2.1
    refine CM.of m1.1 ?_
    refine C_X12_stayed (B_X12_stayed_0 (by omega) m1.1 (fun N1 g1 k1 => ?_))
    subst g1
    rw [z]
    refine ⟨hh2, fun _ => ⟨hx, ⟨by omega, by omega⟩, ⟨by omega, by omega⟩, fun _ v6 e6 => ⟨⟨by omega, by omega⟩, fun w => ?_, fun w => ⟨by rw [e6]; exact ⟨by omega, by omega⟩, fun w2 => ?_, fun w2 v27 e27 => ?_⟩⟩, fun w => absurd (by omega) w⟩, fun w => absurd (by omega) w⟩
    · subst e6
      exact styM n1 hx (by omega) c1 hY hN _ 0 0 rfl (by decide) h40 (Or.inl rfl) ⟨fun y => absurd y.1 (by decide), fun y => absurd w y.1⟩
    · subst e6
      rw [if_pos w2]
      have := hcs (r 4 - 1) (by omega) (by omega)
      refine ⟨by omega, by omega, ⟨by omega, by omega⟩, fun v22 e22 => ?_⟩
      rw [if_neg w2] at hY hN
      have hv : (v22 = 1 ∧ hh ≤ r (55 + (r 4 - 1))) ∨ (v22 = 0 ∧ ¬ hh ≤ r (55 + (r 4 - 1))) := by
        by_cases y : hh ≤ r (55 + (r 4 - 1))
        · rw [if_pos y] at e22; exact Or.inl ⟨e22, y⟩
        · rw [if_neg y] at e22; exact Or.inr ⟨e22, y⟩
      refine styM n1 hx (by omega) c1 hY hN _ 0 v22 rfl (by decide) h40 (by omega) ⟨fun y => ⟨w, by rcases hv with z | z; exact z.2; exact absurd y.1 (by omega), (inRow_F h40).mpr (fun j j0 j1 => y.2 j j0 j1)⟩, fun y => ⟨by rcases hv with z | z; exact z.1; exact absurd y.2.1 z.2, fun j j0 j1 => (inRow_F h40).mp y.2.2 j j0 j1⟩⟩
    · subst e6
      rw [if_pos w2] at hY hN
      have hv : (v27 = 1 ∧ hh ≤ r 5) ∨ (v27 = 0 ∧ ¬ hh ≤ r 5) := by
        by_cases y : hh ≤ r 5
        · rw [if_pos y] at e27; exact Or.inl ⟨e27, y⟩
        · rw [if_neg y] at e27; exact Or.inr ⟨e27, y⟩
      refine styM n1 hx (by omega) c1 hY hN _ 0 v27 rfl (by decide) h40 (by omega) ⟨fun y => ⟨w, by rcases hv with z | z; exact z.2; exact absurd y.1 (by omega), (inRow_F h40).mpr (fun j j0 j1 => y.2 j j0 j1)⟩, fun y => ⟨by rcases hv with z | z; exact z.1; exact absurd y.2.1 z.2, fun j j0 j1 => (inRow_F h40).mp y.2.2 j j0 j1⟩⟩
  refine C_X11_stayed (B_X11_stayed_0 (r := r) (by omega) hC.1.1 ⟨hh2, fun c M10 e10 s10 => ?_, fun c => ⟨hx, by rw [e0]; exact ⟨by omega, by omega⟩, fun c2 => ⟨hO.1, hV, fun c3 => ⟨by omega, by omega, fun M17 e17 s17 M18 e18 s18 => ?_⟩, fun c3 M23 e23 s23 => ?_⟩, fun c2 M24 e24 s24 => ?_⟩⟩)
  · subst e10
    show CM G Y_X12_stayed d [vA 67, vI x, vI hh] (refM M (-1)) _
    refine CM.of s10 ?_
    refine C_X12_stayed (B_X12_stayed_0 (by omega) s10 (fun N1 g1 k1 => ?_))
    subst g1
    refine ⟨hh2, fun w => absurd c (by omega), fun _ M29 e29 _ => ?_⟩
    subst e29
    exact ⟨rfl, fin_ref hC hM (Or.inl rfl)⟩
  · rw [e0] at c2
    rw [e16] at e17
    have z17 : rd M17 1 16 = r 4 := by rw [e17, rd_wr, if_neg (by omega)]; exact e16
    rw [z17] at e18
    have z18 : rd M18 1 16 = r 4 + 1 := by rw [e18, rd_wr, if_pos ⟨rfl, rfl⟩]
    refine ⟨by omega, by omega, fun M21 e21 s21 M22 e22 s22 => ?_⟩
    rw [z18] at e21
    have h45' : r 4 < 5 := by omega
    have hn := (inRow_F h40).mp c3.2.2.2
    obtain ⟨R1, R2, R3⟩ := sty_RS (hh := hh) hV h45' c2 (by omega) c3.1 hn
    have e21' : M21 = wr (wr (wr M 12 (r 4) x) 11 (r 4 + 1) hh) 1 16 (r 4 + 1) := by rw [e21, e18, e17, wr_comm (by omega)]
    have K1 := COK_wr (v := x) hO (Or.inr (Or.inr (Or.inr (Or.inr (Or.inr (Or.inr (Or.inr (Or.inr (Or.inr (Or.inr (Or.inr (Or.inr (Or.inr (Or.inl ⟨rfl, h40, h45', rfl⟩)))))))))))))) (by omega) R1
    have K2 := COK_wr (v := hh) K1 (c := 11) (i := r 4 + 1) (k := 55 + r 4) (Or.inr (Or.inr (Or.inr (Or.inr (Or.inr (Or.inr (Or.inr (Or.inr (Or.inr (Or.inr (Or.inr (Or.inr (Or.inr (Or.inr ⟨rfl, by omega, by omega, by omega⟩)))))))))))))) (by omega) R2
    have K3 : COK M21 (styR r x hh) sm := by rw [e21']; exact COK_wr K2 (c := 1) (i := 16) (k := 4) (Or.inr (Or.inr (Or.inr (Or.inr (Or.inr (Or.inr (Or.inr (Or.inr (Or.inr (Or.inr (Or.inr (Or.inr (Or.inl ⟨rfl, rfl, rfl⟩))))))))))))) (by decide) R3
    have f21 : Fr (fun a _ => a = 1 ∨ a = 11 ∨ a = 12) M M21 := by rw [e21']; exact ((Fr.rf.wr (by omega)).wr (by omega)).wr (by omega)
    have C21 := CI_tail hC f21 (fun a j z => z) K3 s21 (fun j w1 w2 w3 => by unfold styR; rw [upF_ne w1, upF_ne (by omega), upF_ne (by omega)])
    have ev : rd M21 1 16 = r 4 + 1 := by rw [C21.1.2.1.1.1.2.2.2.2.2.2.2.2.1]; exact upF_eq
    rw [ev]
    subst e22
    have m1 : MI r sm s tx L ri si (accM M21) := hM.fc ((f21.mono (fun a j z => by omega) : Fr (fun a _ => a < 67) M M21).acc (by decide)) (fun a j z => z) s22
    have n1 := m1.thr (v := 0)
    show CM G Y_X12_stayed d [vA 67, vI x, vI hh] (accM M21) _
    refine mdl (accM M21) _ m1 c2 (by omega) (fun _ => ?_) (fun w => absurd ⟨c3.1, c3.2.2.1, c3.2.2.2⟩ w)
    refine B_X12_stayed_101 (by omega) n1.1 ⟨⟨by omega, by omega⟩, ⟨by omega, by omega⟩, fun _ => ⟨⟨by decide, by decide⟩, fun _ => ⟨by omega, by omega, fun N6 g6 k6 => ⟨by omega, by omega, fun N9 g9 k9 N10 g10 k10 => ?_⟩⟩, fun w => absurd w (by decide)⟩, fun w => by omega⟩
    have n6 := n1.rw (k := 50 + r 4) (v := x) (by omega) R1
    have n9 := n6.rw (k := 55 + r 4) (v := hh) (by omega) R2
    have z9 : rd N9 69 4 = r 4 := by rw [g9, g6, n9.2.1, upF_ne (by omega), upF_ne (by omega)]
    rw [z9] at g10
    have n10 : MI (styR r x hh) sm s tx L ri si N10 := by rw [g10, g9, g6]; exact n9.rw (by decide) R3
    refine ⟨⟨by omega, by omega, by omega⟩, fun N12 g12 k12 => ?_⟩
    subst g12
    exact ⟨rfl, INV.mk' C21.acc (n10.telA (by omega)) ((by rw [g10, g9, g6]; exact (((Fr.rf.wr ⟨by decide, by decide⟩).wr ⟨by decide, by decide⟩).wr ⟨by decide, by decide⟩).wr ⟨by decide, by decide⟩ : Fr KMd (accM M21) N10).tel ⟨by decide, by decide⟩ (fun _ => ⟨by decide, by decide⟩)) (fun a j z => z)⟩
  · rw [e0] at c2
    subst e23
    have m1 : MI r sm s tx L ri si (refM M (-3)) := hM.fc ((Fr.rf.wr (K := fun a _ => a < 67) (by decide)).wr (by decide)) (fun a j z => z) s23
    show CM G Y_X12_stayed d [vA 67, vI x, vI hh] (refM M (-3)) _
    have hc4 : ¬ (r 5 ≠ -1 ∧ hh ≤ (if r 4 = 0 then r 5 else r (55 + (r 4 - 1))) ∧ inRow (fun i => r (50 + i)) x (r 4) = false) := fun w => c3 ⟨w.1, fun z => by
      have hrow' := hrow
      rw [z] at hrow'
      obtain ⟨j, j0, j1, j2⟩ := pigeon hrow' c2.1 (by omega)
      exact (inRow_F h40).mp w.2.2 j j0 (by omega) j2, w.2.1, w.2.2⟩
    refine mdl (refM M (-3)) _ m1 c2 (by omega) (fun w => absurd w hc4) (fun _ => ?_)
    refine B_X12_stayed_101 (by omega) (sW_67_0 s23) ⟨⟨by omega, by omega⟩, ⟨by omega, by omega⟩, fun _ => ⟨⟨by decide, by decide⟩, fun w => absurd rfl w, fun _ N13 g13 _ => ?_⟩, fun w => by omega⟩
    subst g13
    exact ⟨rfl, fin_ref hC hM (by decide)⟩
  · rw [e0] at c2
    subst e24
    have m1 : MI r sm s tx L ri si (refM M (-2)) := hM.fc ((Fr.rf.wr (K := fun a _ => a < 67) (by decide)).wr (by decide)) (fun a j z => z) s24
    have z : rd (wr (refM M (-2)) 67 0 0) 69 0 = r 0 := by rw [rd_wr, if_neg (by decide), m1.2.1]
    show CM G Y_X12_stayed d [vA 67, vI x, vI hh] (refM M (-2)) _
    refine CM.of s24 ?_
    refine C_X12_stayed (B_X12_stayed_0 (by omega) s24 (fun N1 g1 k1 => ?_))
    subst g1
    rw [z]
    refine ⟨hh2, fun w => ⟨hx, ⟨by omega, by omega⟩, ⟨by omega, by omega⟩, fun w2 => absurd (by omega) c2, fun _ M28 e28 _ => ?_⟩, fun w => absurd (by omega) w⟩
    subst e28
    exact ⟨rfl, fin_ref hC hM (by decide)⟩
end ST5
