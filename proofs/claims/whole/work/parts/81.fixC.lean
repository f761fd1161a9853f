/-! ===== the class finds FIXED; gaps ===== -/
section FC
variable {G : GG} {d : Nat} {M : MM} {Q : PV → MM → Prop} {r : Int → Int} {sm : Int → LSm}
/-- the plan's own flags and rows are changed: what is kept -/
theorem PL.of (h : PC r sm M) (h4 : rd M 39 4 = 0 ∨ rd M 39 4 = 1) (h7 : rd M 39 7 = 0 ∨ rd M 39 7 = 1) (h8 : rd M 39 8 = 0 ∨ rd M 39 8 = 1) (a : rd M 39 4 = 1 → tIn r sm (rd M 44 11) (canC r sm (rd M 44 10)) M 44 ∧ (rd M 44 10 = 3 → rd M 39 8 = 1)) (b : rd M 39 7 = 1 → LSt M (allR r)) (c : rd M 39 8 = 1 → FxK r sm M) : PL r sm M :=
  ⟨h.1, h.2.1, h.2.2.1, h.2.2.2.1, h.2.2.2.2.1, h.2.2.2.2.2.1, h.2.2.2.2.2.2, h4, h7, h8, a, b, c⟩
theorem T_X6_listed (hP : PL r sm M) (hd : 12 ≤ d) (h : ∀ M', PL r sm M' → Fr (fun a j => a = 40 ∨ (a = 39 ∧ (j = 6 ∨ j = 7))) M M' → rd M' 39 7 = 1 → LSt M' (allR r) → Q (vI (allR r).length) M') : C G Y_X6_listed d 0 0 [vA 39] M Q := by
  have hV := hP.2.1.1.2.1
  have h7 := hP.2.2.2.2.2.2.2.2.1
  refine C_X6_listed (B_X6_listed_0 (by omega) hP.1 ⟨⟨by omega, by omega⟩, fun q => ?_, fun q M2 e2 hS2 => ?_⟩)
  · have hL := hP.2.2.2.2.2.2.2.2.2.2.2.1 (by omega)
    rw [hL.1]
    exact h M hP Fr.rf (by omega) hL
  · have hH2 : HR M2 r := hP.2.1.1.1.fr (fun a j w => by rw [e2, rd_wr, if_neg (by unfold KH at w; omega)])
    have hL2 : LSt M2 [] := ⟨by rw [e2, rd_wr, if_pos ⟨rfl, rfl⟩]; rfl, fun i hi => by simp at hi⟩
    have hle : (([] : List (List Int)) ++ rws r 5 (npl []) []).length ≤ 120 := allR_len hV
    refine T_X6_list hV 5 [] [] M2 _ (d - 1) (nd0 r) rfl (by omega) hS2 hH2 hL2 hle (fun M3 f3 hS3 hL3 => ?_)
    show Sh M3 ∧ _
    refine ⟨hS3, fun M4 e4 hS4 => ?_⟩
    have hL3' : LSt M3 (allR r) := hL3
    have x4 : ∀ a j : Int, ¬ (a = 39 ∧ j = 7) → rd M4 a j = rd M3 a j := fun a j w => by rw [e4, rd_wr, if_neg w]
    have x3 : ∀ a j : Int, a ≠ 40 → a ≠ 39 → rd M3 a j = rd M a j := fun a j w1 w2 => by rw [f3.2.2 _ _ (by unfold KLs; omega), e2, rd_wr, if_neg (fun y => w2 y.1)]
    have y3 : ∀ j : Int, j ≠ 6 → rd M3 39 j = rd M 39 j := fun j w => by rw [f3.2.2 _ _ (by unfold KLs; omega), e2, rd_wr, if_neg (fun y => w y.2)]
    have hL4 : LSt M4 (allR r) := hL3'.eq (x4 _ _ (by decide)) (fun j => x4 _ _ (by omega))
    have f4 : Fr (fun a j => a = 40 ∨ (a = 39 ∧ (j = 6 ∨ j = 7))) M M4 := by
      rw [e4]
      refine Fr.wr (Fr.tr (M1 := M2) ?_ (f3.mono (fun a j w => by unfold KLs at w; omega))) (by omega)
      rw [e2]; exact Fr.rf.wr (by omega)
    have z4 : ∀ a j : Int, a ≠ 40 → (a = 39 → j ≠ 6 ∧ j ≠ 7) → rd M4 a j = rd M a j := fun a j w1 w2 => f4.2.2 _ _ (by omega)
    have b7 : rd M4 39 7 = 1 := by rw [e4, rd_wr, if_pos ⟨rfl, rfl⟩]
    have e6 : rd M4 39 6 = (allR r).length := hL4.1
    rw [e6]
    refine h M4 ?_ f4 b7 hL4
    have pc := hP.pc.fr f4 (fun a j w => by omega) hS4
    have x1 : ∀ a : Int, a ≠ 40 → a ≠ 39 → rd M4 a = rd M a := fun a w1 w2 => funext fun j => z4 a j w1 (fun y => absurd y w2)
    refine PL.of pc ?_ (Or.inr b7) ?_ (fun w => ?_) (fun _ => hL4) (fun w => ?_)
    · rw [z4 _ _ (by decide) (fun _ => ⟨by decide, by decide⟩)]; exact hP.2.2.2.2.2.2.2.1
    · rw [z4 _ _ (by decide) (fun _ => ⟨by decide, by decide⟩)]; exact hP.2.2.2.2.2.2.2.2.2.1
    · rw [z4 _ _ (by decide) (fun _ => ⟨by decide, by decide⟩)] at w
      rw [z4 44 11 (by decide) (fun y => absurd y (by decide)), z4 44 10 (by decide) (fun y => absurd y (by decide)), z4 39 8 (by decide) (fun _ => ⟨by decide, by decide⟩)]
      have := hP.2.2.2.2.2.2.2.2.2.2.1 w
      exact ⟨this.1.eq (x1 _ (by decide) (by decide)) (x1 _ (by decide) (by decide)) (z4 _ _ (by decide) (fun y => absurd y (by decide))), this.2⟩
    · rw [z4 _ _ (by decide) (fun _ => ⟨by decide, by decide⟩)] at w
      exact (hP.2.2.2.2.2.2.2.2.2.2.2.2 w).eq (z4 _ _ (by decide) (fun y => absurd y (by decide))) (fun j => z4 _ _ (by decide) (fun y => absurd y (by decide))) (x1 _ (by decide) (by decide))
theorem allR_nd (hV : RS r) : allR r ≠ [] ∧ ∀ x ∈ allR r, ndOk r x := by
  have h := rws_ok hV 5 [] (nd0 r) (by simp)
  exact ⟨h.1, fun x hx => (h.2 x hx).1⟩
theorem T_X6_fix (hP : PL r sm M) (h9 : rd M 44 9 < 80000000) (hd : 27 ≤ d) (h : ∀ M', PL r sm M' → Fr KPl M M' → rd M' 39 8 = 1 → FxK r sm M' → (rd M' 32 9 = rd M 32 9 ∧ rd M' 44 9 ≤ rd M 44 9 + 120) → Q vU M') : C G Y_X6_fix d 0 0 [vA 39] M Q := by
  have hV := hP.2.1.1.2.1
  have hz := RZp hV
  have h8 := hP.2.2.2.2.2.2.2.2.2.1
  have hlen := allR_len hV
  have hnd := allR_nd hV
  refine C_X6_fix (B_X6_fix_0 (by omega) hP.1 ⟨⟨by omega, by omega⟩, fun q => ?_, fun q => h M hP Fr.rf (by omega) (hP.2.2.2.2.2.2.2.2.2.2.2.2 (by omega)) ⟨rfl, by omega⟩⟩)
  refine T_X6_listed hP (by omega) (fun M2 hP2 f2 b7 hL2 => ?_)
  show Sh M2 ∧ _
  refine ⟨hP2.1, ?_⟩
  have f2' : Fr KPl M M2 := f2.mono (fun a j w => by unfold KPl; omega)
  have t2 : rd M2 32 9 = rd M 32 9 ∧ rd M2 44 9 = rd M 44 9 := ⟨f2.2.2 _ _ (by decide), f2.2.2 _ _ (by decide)⟩
  have key : ∀ (suf pre : List (List Int)), pre ++ suf = allR r → ∀ (Mk : MM) (x1 : Int), Fr KPl M Mk → PC r sm Mk → LSt Mk (allR r) → rd Mk 39 7 = 1 → rd Mk 32 9 = rd M 32 9 → rd Mk 44 9 ≤ rd M 44 9 + pre.length →
      (pre = [] → x1 = 0) → (pre ≠ [] → ∃ b : List Int, pre.foldl (stpR (wR r sm)) none = some b ∧ 0 ≤ x1 ∧ x1 < pre.length ∧ (allR r).getD x1.toNat [] = b ∧ nrm (rd Mk 41) 0 14 ∧ vl (rd Mk 41) 0 14 = wR r sm b) →
      X G Y_X6_fix d 0 0 17 [vA 39, vI x1, vI (allR r).length, vI pre.length] [] Mk Q := by
    intro suf
    induction suf with
    | nil =>
      intro pre ep Mk x1 fk hPk hLk k7 k9 k9' hx0 hx1
      rw [List.append_nil] at ep
      have hne : pre ≠ [] := by rw [ep]; exact hnd.1
      obtain ⟨b, eb, b0, b1, b2, b3, b4⟩ := hx1 hne
      have hl : pre.length = (allR r).length := by rw [ep]
      refine B_X6_fix_17 (by omega) hPk.1 ⟨⟨by omega, by omega⟩, ⟨by omega, by omega⟩, fun _ => ⟨b0, by omega, ?_⟩, fun w => by omega⟩
      have e40 : rd Mk 40 x1 = pck b := by
        have := hLk.2 x1.toNat (by omega)
        rw [b2, Int.toNat_of_nonneg b0] at this
        exact this
      rw [e40]
      have efix : fixL r sm = b := by
        unfold fixL fixR
        rw [← ep, eb]; rfl
      have hb := (fixL_ok sm hV).2.1
      rw [efix] at hb
      refine T_X3_takeRow hPk.1 hb.2.1 (rowf_mem hb.1.1) (by omega) (fun M5 f5 hS5 e54 e31 => ?_)
      show Sh M5 ∧ _
      refine ⟨hS5, fun M6 e6 hS6 M7 e7 hS7 => ?_⟩
      have f7 : Fr (fun a j => KT0 a j ∨ (a = 39 ∧ (j = 4 ∨ j = 8))) Mk M7 := by
        rw [e7, e6]
        exact ((f5.mono (fun a j w => Or.inl w)).wr (Or.inr ⟨rfl, Or.inl rfl⟩)).wr (Or.inr ⟨rfl, Or.inr rfl⟩)
      have z7 : ∀ a j : Int, ¬ (KT0 a j ∨ (a = 39 ∧ (j = 4 ∨ j = 8))) → rd M7 a j = rd Mk a j := fun a j w => f7.2.2 _ _ w
      have y7 : ∀ a j : Int, a ≠ 39 → rd M7 a j = rd M5 a j := fun a j w => by rw [e7, rd_wr, if_neg (fun y => w y.1), e6, rd_wr, if_neg (fun y => w y.1)]
      have a4 : rd M7 39 4 = 0 := by rw [e7, rd_wr, if_neg (by decide), e6, rd_wr, if_pos ⟨rfl, rfl⟩]
      have a8 : rd M7 39 8 = 1 := by rw [e7, rd_wr, if_pos ⟨rfl, rfl⟩]
      have pc := hPk.fr f7 (fun a j w => by unfold KT0 at w; omega) hS7
      have hK : FxK r sm M7 := by
        refine ⟨⟨?_, fun i i0 i1 => ?_⟩, ?_, ?_⟩
        · rw [efix, y7 _ _ (by decide)]; exact e54
        · rw [efix] at i1 ⊢; rw [y7 _ _ (by decide)]; exact e31 i i0 i1
        · rw [show rd M7 41 = rd Mk 41 from funext fun j => z7 _ _ (by unfold KT0; omega)]; exact b3
        · rw [efix, show rd M7 41 = rd Mk 41 from funext fun j => z7 _ _ (by unfold KT0; omega)]; exact b4
      refine h M7 (PL.of pc (Or.inl a4) (Or.inr ?_) (Or.inr a8) (fun w => by rw [a4] at w; exact absurd w (by decide)) (fun _ => hLk.eq (z7 _ _ (by unfold KT0; omega)) (fun j => z7 _ _ (by unfold KT0; omega))) (fun _ => hK)) (fk.tr (f7.mono (fun a j w => by unfold KT0 at w; unfold KPl; omega))) a8 hK ⟨?_, ?_⟩
      · rw [z7 _ _ (by unfold KT0; omega)]; exact k7
      · rw [z7 _ _ (by unfold KT0; omega)]; exact k9
      · rw [z7 _ _ (by unfold KT0; omega)]; omega
    | cons t suf ih =>
      intro pre ep Mk x1 fk hPk hLk k7 k9 k9' hx0 hx1
      have hl : pre.length + 1 + suf.length = (allR r).length := by rw [← ep]; simp; omega
      have hmem : t ∈ allR r := by rw [← ep]; simp
      have ht := hnd.2 t hmem
      have eget : (allR r).getD pre.length [] = t := by rw [← ep]; simp
      have e40 : rd Mk 40 pre.length = pck t := by rw [hLk.2 pre.length (by omega), eget]
      refine B_X6_fix_17 (by omega) hPk.1 ⟨⟨by omega, by omega⟩, ⟨by omega, by omega⟩, fun w => by omega, fun _ => ⟨by omega, by omega, ?_⟩⟩
      rw [e40]
      refine T_X3_takeRow hPk.1 ht.2.1 (rowf_mem ht.1.1) (by omega) (fun M10 f10 hS10 e104 e31 => ?_)
      show Sh M10 ∧ _
      refine ⟨hS10, fun M11 e11 hS11 => ?_⟩
      have z10 : ∀ a j : Int, ¬ KT0 a j → rd M10 a j = rd Mk a j := fun a j w => f10.2.2 _ _ w
      have pc10 := hPk.fr f10 (fun a j w => by unfold KT0 at w; omega) hS10
      obtain ⟨c1, c2, c3, c4, c5, c6⟩ := pc10.beg (can := cF (fun p _ _ _ => nxt r (rowf t) t.length p) r) (c := 3) (g := 8) ⟨by decide, by decide⟩ ⟨by decide, by decide⟩ (by rw [z10 _ _ (by unfold KT0; omega)]; omega) e11 hS11
      have z11 : ∀ a j : Int, a ≠ 44 → rd M11 a j = rd M10 a j := fun a j w => c6.2.2 _ _ (fun y => w y.1)
      have h5 := HRp c1.2.1.1.1
      rw [h5.1, h5.2]
      have hx := cx_3 (G := G) (r := r) (sm := sm) (g := 8) (t := t) hV ⟨ht.1, ht.2.1⟩ ⟨by decide, by decide⟩
      refine T_other0 hx c1 c3 c4 c2 ⟨by rw [z11 _ _ (by decide)]; exact e104, fun i i0 i1 => by rw [z11 _ _ (by decide)]; exact e31 i i0 i1⟩ trivial hz (by omega) (fun M12 hP12 f12 hI12 m12 => ?_)
      show Sh M12 ∧ _
      have h5' := HRp hP12.2.1.1.1
      rw [h5'.1, h5'.2]
      refine ⟨hP12.1, ?_⟩
      refine T_copyRoot (Or.inr rfl) hP12.1 hP12.2.1.2.1 (Or.inl rfl) hI12 hz m12 (by omega) (fun M13 c13 hS13 n13 v13 => ?_)
      show Sh M13 ∧ _
      have z13 : ∀ a j : Int, a ≠ 42 → rd M13 a j = rd M12 a j := fun a j w => c13.2.2 _ _ (fun y => w y.1)
      have z12 : ∀ a j : Int, (30 ≤ a ∧ a ≤ 44) → rd M12 a j = rd M11 a j := fun a j w => f12.2.2 _ _ (by unfold KZ KTd KX; omega)
      have v13' : vl (rd M13 42) 0 14 = wR r sm t := v13
      have pc13 := hP12.fr (Fr.ch c13 (K := fun a _ => a = 42) (fun j _ _ => rfl)) (fun a j w => by omega) hS13
      have f13 : Fr KPl M M13 := ((((fk.tr (f10.mono (fun a j w => by unfold KT0 at w; unfold KPl; omega))).tr (c6.mono (fun a j w => by unfold KPl; omega))).tr (f12.mono (fun a j w => KZ_Pl (Or.inr rfl) w))).tr (Fr.ch c13 (fun j _ _ => by unfold KPl; omega)))
      have w13 : ∀ a j : Int, (a = 39 ∨ a = 40 ∨ a = 41 ∨ a = 32) → rd M13 a j = rd Mk a j := fun a j w => by rw [z13 _ _ (by omega), z12 _ _ (by omega), z11 _ _ (by omega), z10 _ _ (by unfold KT0; omega)]
      have L13 : LSt M13 (allR r) := hLk.eq (w13 _ _ (by omega)) (fun j => w13 _ _ (by omega))
      have t13 : rd M13 44 9 ≤ rd M 44 9 + (pre.length + 1) := by rw [z13 _ _ (by decide), z12 _ _ (by decide), c5, z10 _ _ (by unfold KT0; omega)]; omega
      have ep' : (pre ++ [t]) ++ suf = allR r := by rw [← ep]; simp
      have el : ((pre ++ [t]).length : Int) = (pre.length : Int) + 1 := by simp
      -- the row becomes the best one
      have take : (pre ++ [t]).foldl (stpR (wR r sm)) none = some t → X G Y_X6_fix d 0 0 123 [vA 39, vI x1, vI (allR r).length, vI pre.length] [] M13 Q := by
        intro ef
        refine B_X6_fix_123 (by omega) hS13 ⟨sO_42 hS13, sO_41 hS13, by rw [sL_42 hS13]; decide, by rw [sL_41 hS13]; decide, fun M1 e1 => ?_⟩
        have ch : Ch M13 M1 41 0 14 := by
          rw [e1]
          refine ⟨rfl, fun _ => rfl, fun b j w => ?_⟩
          rw [rd_cp, if_neg (by omega)]
        have r1 : ∀ i : Int, 0 ≤ i → i < 14 → rd M1 41 (0 + i) = rd M13 42 (0 + i) := fun i i0 i1 => by
          rw [e1, rd_cp, if_pos ⟨rfl, by omega, by omega⟩]; congr 1; omega
        have hS1 : Sh M1 := hS13.ch ch (by rw [(sO_41 hS13).2.2]; decide)
        have z1 : ∀ a j : Int, a ≠ 41 → rd M1 a j = rd M13 a j := fun a j w => ch.2.2 _ _ (fun y => w y.1)
        have := ih (pre ++ [t]) ep' M1 pre.length (f13.tr (Fr.ch ch (fun j _ _ => by unfold KPl; omega))) (pc13.fr (Fr.ch ch (K := fun a _ => a = 41) (fun j _ _ => rfl)) (fun a j w => by omega) hS1) (L13.eq (z1 _ _ (by decide)) (fun j => z1 _ _ (by decide))) (by rw [z1 _ _ (by decide), w13 _ _ (by omega)]; exact k7) (by rw [z1 _ _ (by decide), w13 _ _ (by omega)]; exact k9) (by rw [z1 _ _ (by decide), el]; exact t13) (fun w => by simp at w) (fun _ => ⟨t, ef, by omega, by rw [el]; omega, by rw [Int.toNat_natCast]; exact eget, fun i i0 i1 => by rw [r1 i i0 i1]; exact n13 i i0 i1, by rw [vl_congr r1]; exact v13'⟩)
        rw [el] at this
        exact this
      refine ⟨hS13, fun w => take ?_, fun w => ?_⟩
      · have : pre = [] := List.length_eq_zero_iff.mp (by omega)
        rw [this]; rfl
      · have hne : pre ≠ [] := fun y => w (by rw [y]; rfl)
        obtain ⟨b, eb, b0, b1, b2, b3, b4⟩ := hx1 hne
        have e41 : rd M13 41 = rd Mk 41 := funext fun j => w13 _ _ (by omega)
        have ef : (pre ++ [t]).foldl (stpR (wR r sm)) none = if wR r sm b < wR r sm t then some t else some b := by
          rw [List.foldl_append, eb]; rfl
        have A42 : Ar M13 42 0 14 := hS13.Ar 42 14 rfl ⟨by decide, by decide, by decide, by decide⟩ (by decide)
        have A41 : Ar M13 41 0 14 := hS13.Ar 41 14 rfl ⟨by decide, by decide, by decide, by decide⟩ (by decide)
        have ev : vl (rd M13 41) 0 14 = wR r sm b := by rw [e41]; exact b4
        refine ⟨⟨by decide, by decide⟩, A42, A41, n13, by rw [e41]; exact b3, cmpI_R, ?_⟩
        show ((cmpI (vl (rd M13 42) 0 14) (vl (rd M13 41) 0 14)) ≤ 0 → _) ∧ (0 < (cmpI (vl (rd M13 42) 0 14) (vl (rd M13 41) 0 14)) → _)
        rw [v13', ev]
        refine ⟨fun w2 => ?_, fun w2 => take ?_⟩
        · have hlt : ¬ wR r sm b < wR r sm t := fun y => by have := cmpI_pos.mpr y; omega
          rw [if_neg hlt] at ef
          have := ih (pre ++ [t]) ep' M13 x1 f13 pc13 L13 (by rw [w13 _ _ (by omega)]; exact k7) (by rw [w13 _ _ (by omega)]; exact k9) (by rw [el]; exact t13) (fun w => by simp at w) (fun _ => ⟨b, ef, b0, by rw [el]; omega, b2, by rw [e41]; exact b3, ev⟩)
          rw [el] at this
          exact this
        · rw [ef, if_pos (cmpI_pos.mp w2)]
  exact key (allR r) [] rfl M2 0 f2' hP2.pc hL2 b7 t2.1 (by rw [t2.2]; omega) (fun _ => rfl) (fun w => absurd rfl w)
theorem T_X6_gap {A B : Int} (hS : Sh M) (nA : nrm (rd M 42) 0 14) (eA : vl (rd M 42) 0 14 = A) (nB : nrm (rd M 43) 0 14) (eB : vl (rd M 43) 0 14 = B) (hd : 3 ≤ d) (h : ∀ M', (Ch M M' 42 0 14 ∨ Ch M M' 43 0 14) → Sh M' → Q (vI (gpN A B)) M') : C G Y_X6_gap d 0 0 [vA 39] M Q := by
  have A42 : Ar M 42 0 14 := hS.Ar 42 14 rfl ⟨by decide, by decide, by decide, by decide⟩ (by decide)
  have A43 : Ar M 43 0 14 := hS.Ar 43 14 rfl ⟨by decide, by decide, by decide, by decide⟩ (by decide)
  refine C_X6_gap (B_X6_gap_0 (by omega) hS ⟨⟨by decide, by decide⟩, A42, A43, nA, nB, cmpI_R, ?_⟩)
  show ((cmpI (vl (rd M 42) 0 14) (vl (rd M 43) 0 14)) < 0 → _) ∧ (0 ≤ (cmpI (vl (rd M 42) 0 14) (vl (rd M 43) 0 14)) → _)
  rw [eA, eB]
  have sgn : 0 ≤ cmpI A B ↔ B ≤ A := by
    unfold cmpI
    split
    · omega
    · split <;> omega
  refine ⟨fun w => ⟨A43, A42, by decide, nB, nA, by have := sgn; omega, fun M13 e13 hS13 => ?_⟩, fun w => ⟨A42, A43, by decide, nA, nB, by have := sgn; omega, fun M24 e24 hS24 => ?_⟩⟩
  · obtain ⟨c13, n13, v13⟩ := e13
    refine T_X2_above (A43.ch c13) n13 ⟨by decide, by decide⟩ (by omega) ?_
    show Sh M13 ∧ _
    have hh := h M13 (Or.inr c13) hS13
    unfold gpN at hh
    rw [if_neg (fun y => by have := sgn.mpr y; omega)] at hh
    rw [v13]
    exact ⟨hS13, hh⟩
  · obtain ⟨c24, n24, v24⟩ := e24
    refine T_X2_above (A42.ch c24) n24 ⟨by decide, by decide⟩ (by omega) ?_
    show Sh M24 ∧ _
    have hh := h M24 (Or.inl c24) hS24
    unfold gpN at hh
    rw [if_pos (sgn.mp w)] at hh
    rw [v24]
    exact ⟨hS24, hh⟩
theorem T_X6_seeingGap (hP : PL r sm M) (h8 : rd M 39 8 = 1) (hd : 27 ≤ d) (h : ∀ M', PL r sm M' → Fr KPl M M' → (rd M' 32 9 = rd M 32 9 ∧ rd M' 44 9 = rd M 44 9) → Q (vI (gpN (tlV r sm 2 8) (tlV r sm 3 8))) M') : C G Y_X6_seeingGap d 0 0 [vA 39] M Q := by
  have hV := hP.2.1.1.2.1
  have hz := RZp hV
  have h5 := HRp hP.2.1.1.1
  refine C_X6_seeingGap (B_X6_seeingGap_0 (by omega) hP.1 ?_)
  rw [h5.1, h5.2]
  refine T_ahead0 hP hz (by omega) (fun M1 hP1 f1 m1 _ => ?_)
  show Sh M1 ∧ _
  have h5' := HRp hP1.2.1.1.1
  rw [h5'.1, h5'.2]
  refine ⟨hP1.1, ?_⟩
  refine T_copyRoot (Or.inl rfl) hP1.1 hP1.2.1.2.1 (Or.inl rfl) hP1.2.2.2.1 hz m1 (by omega) (fun M2 c2 hS2 n2 v2 => ?_)
  show Sh M2 ∧ _
  have hP2 := hP1.ch c2 (Or.inl rfl)
  have z2 : ∀ a j : Int, a ≠ 42 → rd M2 a j = rd M1 a j := fun a j w => c2.2.2 _ _ (fun y => w y.1)
  have z1 : ∀ a j : Int, (a = 30 ∨ a = 31 ∨ a = 32 ∨ (39 ≤ a ∧ a ≤ 94)) → rd M1 a j = rd M a j := fun a j w => f1.2.2 _ _ (by unfold KZ KTd KX; omega)
  refine ⟨hS2, sO_41 hS2, sO_43 hS2, by rw [sL_41 hS2]; decide, by rw [sL_43 hS2]; decide, fun M3 e3 => ?_⟩
  have ch : Ch M2 M3 43 0 14 := by
    rw [e3]
    refine ⟨rfl, fun _ => rfl, fun b j w => ?_⟩
    rw [rd_cp, if_neg (by omega)]
  have r3 : ∀ i : Int, 0 ≤ i → i < 14 → rd M3 43 (0 + i) = rd M2 41 (0 + i) := fun i i0 i1 => by
    rw [e3, rd_cp, if_pos ⟨rfl, by omega, by omega⟩]; congr 1; omega
  have hP3 := hP2.ch ch (Or.inr rfl)
  have hk := hP2.2.2.2.2.2.2.2.2.2.2.2.2 (by rw [z2 _ _ (by decide), z1 _ _ (by decide)]; exact h8)
  have e42 : rd M3 42 = rd M2 42 := funext fun j => ch.2.2 _ _ (by omega)
  refine ⟨sO_39 hP3.1, ?_⟩
  refine T_X6_gap (A := tlV r sm 2 8) (B := tlV r sm 3 8) hP3.1 (by rw [e42]; exact n2) ?_ (fun i i0 i1 => by rw [r3 i i0 i1]; exact hk.2.1 i i0 i1) ?_ (by omega) (fun M9 c9 hS9 => ?_)
  · rw [e42, v2]
    unfold tlV
    have e : canC r sm 2 = cF (aheadC r sm) r := by simp [canC, chC]
    rw [e, ahd_eq hV 5 0 (-1) (r 30) (r 33) (by decide) (by decide) (by decide +kernel)]
  · rw [vl_congr r3, hk.2.2]
    unfold tlV
    have e : canC r sm 3 = cF (fun p _ _ _ => nxt r (rowf (fixL r sm)) (fixL r sm).length p) r := by simp [canC, chC]
    rw [e]; rfl
  · show Sh M9 ∧ _
    refine ⟨hS9, h M9 ?_ (Fr.tr (M1 := M3) ?_ ?_) ⟨?_, ?_⟩⟩
    · rcases c9 with c9 | c9
      · exact hP3.ch c9 (Or.inl rfl)
      · exact hP3.ch c9 (Or.inr rfl)
    · exact ((f1.mono (fun a j w => KZ_Pl (Or.inl rfl) w)).tr (Fr.ch c2 (fun j _ _ => by unfold KPl; omega))).tr (Fr.ch ch (fun j _ _ => by unfold KPl; omega))
    · rcases c9 with c9 | c9
      · exact Fr.ch c9 (fun j _ _ => by unfold KPl; omega)
      · exact Fr.ch c9 (fun j _ _ => by unfold KPl; omega)
    · have : rd M9 32 9 = rd M3 32 9 := by
        rcases c9 with c9 | c9 <;> exact c9.2.2 _ _ (by omega)
      rw [this, ch.2.2 _ _ (by omega), z2 _ _ (by decide), z1 _ _ (by decide)]
    · have : rd M9 44 9 = rd M3 44 9 := by
        rcases c9 with c9 | c9 <;> exact c9.2.2 _ _ (by omega)
      rw [this, ch.2.2 _ _ (by omega), z2 _ _ (by decide), z1 _ _ (by decide)]
theorem T_X6_lossGap {so : Int} (hP : PL r sm M) (hso : so = 0 ∨ so = 1) (hpe : r (30 + 3 * so) ≠ 0) (hd : 27 ≤ d) (h : ∀ M', PL r sm M' → Fr KPl M M' → (rd M' 32 9 = rd M 32 9 ∧ rd M' 44 9 = rd M 44 9) → Q (vI (gpN (VV r sm 8 (cBs r) 0 (-1) (r 30) (r 33)).1 (VV r sm 8 (cBs r) 0 (-1) (r 30 - (if so = 0 then 1 else 0)) (r 33 - so)).1)) M') : C G Y_X6_lossGap d 0 0 [vA 39, vI so] M Q := by
  have hV := hP.2.1.1.2.1
  have hz := RZp hV
  have h5 := HRp hP.2.1.1.1
  have hz2 : RZ (r 30 - (if so = 0 then 1 else 0)) (r 33 - so) := by
    obtain ⟨⟨a, b⟩, c, d⟩ := hz
    rcases hso with rfl | rfl
    · simp at hpe ⊢; exact ⟨⟨by omega, by omega⟩, ⟨by omega, by omega⟩⟩
    · simp at hpe ⊢; exact ⟨⟨by omega, by omega⟩, ⟨by omega, by omega⟩⟩
  refine C_X6_lossGap (B_X6_lossGap_0 (by omega) hP.1 ?_)
  rw [h5.1, h5.2]
  intro v1 e1 v2 e2
  rw [e1, e2]
  refine ⟨⟨by omega, by omega⟩, fun v10 e10 v17 e17 => ?_⟩
  have e10' : v10 = r 30 - (if so = 0 then 1 else 0) := by rw [e10]; rcases hso with rfl | rfl <;> simp
  have e17' : v17 = r 33 - so := by rw [e17]; rcases hso with rfl | rfl <;> simp
  rw [e10', e17']
  refine T_ahead0 hP hz (by omega) (fun M1 hP1 f1 m1 _ => ?_)
  show Sh M1 ∧ _
  refine ⟨hP1.1, ?_⟩
  refine T_copyRoot (Or.inl rfl) hP1.1 hP1.2.1.2.1 (Or.inl rfl) hP1.2.2.2.1 hz m1 (by omega) (fun M2 c2 hS2 n2 v2 => ?_)
  show Sh M2 ∧ _
  have hP2 := hP1.ch c2 (Or.inl rfl)
  refine ⟨hS2, ?_⟩
  refine T_ahead0 hP2 hz2 (by omega) (fun M3 hP3 f3 m3 _ => ?_)
  show Sh M3 ∧ _
  have e42 : rd M3 42 = rd M2 42 := funext fun j => f3.2.2 _ _ (by unfold KZ KTd KX; omega)
  refine ⟨hP3.1, ?_⟩
  refine T_copyRoot (Or.inl rfl) hP3.1 hP3.2.1.2.1 (Or.inr rfl) hP3.2.2.2.1 hz2 m3 (by omega) (fun M4 c4 hS4 n4 v4 => ?_)
  show Sh M4 ∧ _
  have hP4 := hP3.ch c4 (Or.inr rfl)
  have e42' : rd M4 42 = rd M3 42 := funext fun j => c4.2.2 _ _ (by omega)
  refine ⟨hS4, ?_⟩
  refine T_X6_gap (A := (VV r sm 8 (cBs r) 0 (-1) (r 30) (r 33)).1) hS4 (by rw [e42', e42]; exact n2) (by rw [e42', e42]; exact v2) n4 v4 (by omega) (fun M9 c9 hS9 => ?_)
  show Sh M9 ∧ _
  have tt : ∀ a : Int, a = 32 ∨ a = 44 → rd M9 a 9 = rd M a 9 := fun a w => by
    have : rd M9 a 9 = rd M4 a 9 := by
      rcases c9 with c9 | c9 <;> exact c9.2.2 _ _ (by omega)
    rw [this, c4.2.2 _ _ (by omega), f3.2.2 _ _ (by unfold KZ KTd KX; omega), c2.2.2 _ _ (by omega), f1.2.2 _ _ (by unfold KZ KTd KX; omega)]
  refine ⟨hS9, h M9 ?_ (Fr.tr (M1 := M4) ?_ ?_) ⟨tt 32 (Or.inl rfl), tt 44 (Or.inr rfl)⟩⟩
  · rcases c9 with c9 | c9
    · exact hP4.ch c9 (Or.inl rfl)
    · exact hP4.ch c9 (Or.inr rfl)
  · exact (((f1.mono (fun a j w => KZ_Pl (Or.inl rfl) w)).tr (Fr.ch c2 (fun j _ _ => by unfold KPl; omega))).tr (f3.mono (fun a j w => KZ_Pl (Or.inl rfl) w))).tr (Fr.ch c4 (fun j _ _ => by unfold KPl; omega))
  · rcases c9 with c9 | c9
    · exact Fr.ch c9 (fun j _ _ => by unfold KPl; omega)
    · exact Fr.ch c9 (fun j _ _ => by unfold KPl; omega)
end FC
