/-! ===== pairs of calls that ask ===== -/
theorem KPl_ok {a j : Int} (h : KPl a j) : a < 94 ∧ a ≠ 0 ∧ a ≠ 9 ∧ a ≠ 13 ∧ a ≠ 14 ∧ a ≠ 15 ∧ a ≠ 20 ∧ ¬ (59 ≤ a ∧ a ≤ 62) := by unfold KPl at h; omega
theorem KPl_67 {a j : Int} (h : KPl a j) : a < 67 := by unfold KPl at h; omega
theorem KG_sc {a j : Int} (h : KG a j) : KSc a j := by unfold KG KF KR KE KA at h; unfold KSc; omega
theorem KG_md {a j : Int} (h : KG a j) : KMd a j := by unfold KG KF KR KE KA at h; unfold KMd; omega
section QR
variable {G : GG} {d : Nat} {M : MM} {Q : PV → MM → Prop} {r : Int → Int} {sm : Int → LSm} {s tx : Int → Int} {L : List (Int × Int × Int)} {ri : Int → Int → Int} {si : Int → Int → LSm} {q q' q'' c g : Int}
theorem MI.mok (h : MI r sm s tx L ri si M) : MOK M sm := ⟨by rw [h.2.1]; exact h.2.2.1.1, by rw [h.2.1]; exact h.2.2.1.2⟩
theorem qF (hC : CI q r sm s tx L ri si M) (hq : 0 ≤ q ∧ q ≤ 1000) (hd : 27 ≤ d) (h : ∀ M', CI (q + 1) r sm s tx L ri si M' → Fr KPl M M' → rd M' 39 8 = 1 → FxK r sm M' → rd M' 44 9 ≤ 121 + 200 * q → Q vU M') : C G Y_X6_fix d 0 0 [vA 39] M Q := by
  have h9 := hC.2.2.1
  exact T_X6_fix hC.1 (by omega) hd (fun M' hP f h8 hF e9 => h M' (hC.to hP f (fun a j z => KPl_ok z) (by omega)) f h8 hF (by omega))
theorem qT (hC : CI q' r sm s tx L ri si M) (hb : rd M 44 9 ≤ 200 * q'') (hq : q' ≤ q'') (hq2 : q'' ≤ 2000) (hc : 0 ≤ c ∧ c ≤ 4) (hg : 0 ≤ g ∧ g ≤ 10) (h3 : c = 3 → rd M 39 8 = 1) (hd : 26 ≤ d) (h : ∀ a M', (a = 41 ∨ a = 42) → CI q'' r sm s tx L ri si M' → Fr KPl M M' → nrm (rd M' a) 0 14 → vl (rd M' a) 0 14 = tlV r sm c g → Q (vA a) M') : C G Y_X6_tells d 0 0 [vA 39, vI c, vI g] M Q := by
  have h9 := hC.2.2.1
  exact T_X6_tells hC.1 hc hg h3 (by omega) hd (fun a M' ha hP f _ e9 hn hv => h a M' ha (hC.to hP f (fun a j z => KPl_ok z) (by omega)) f hn hv)
theorem qC (hC : CI q r sm s tx L ri si M) (hq : 0 ≤ q ∧ q ≤ 1000) (hc : 0 ≤ c ∧ c ≤ 3) (hg : 0 ≤ g ∧ g ≤ 10) (hd : 27 ≤ d) (h : ∀ a M', (a = 41 ∨ a = 42) → CI (q + 1) r sm s tx L ri si M' → Fr KPl M M' → nrm (rd M' a) 0 14 → vl (rd M' a) 0 14 = tlV r sm c g → Q (vA a) M') : (c ≠ 3 → C G Y_X6_tells d 0 0 [vA 39, vI c, vI g] M Q) ∧ (c = 3 → C G Y_X6_fix d 0 0 [vA 39] M (rU (fun M6 => Sh M6 ∧ C G Y_X6_tells d 0 0 [vA 39, vI c, vI g] M6 Q))) := by
  have h9 := hC.2.2.1
  exact ⟨fun w => qT (q'' := q + 1) hC (by omega) (by omega) (by omega) (by omega) hg (fun z => absurd z w) (by omega) h, fun w => qF hC hq hd (fun M6 C6 f6 h8 _ b6 => ⟨C6.1.1, qT (q'' := q + 1) C6 (by omega) (by omega) (by omega) (by omega) hg (fun _ => h8) (by omega) (fun a M' ha C' f' => h a M' ha C' (f6.tr f'))⟩)⟩
theorem qM (hM : MI r sm s tx L ri si M) (hc : 0 ≤ c ∧ c ≤ 3) (hg : 0 ≤ g ∧ g ≤ 8) (hd : 13 ≤ d) (h : ∀ M', MI r sm s tx L ri si M' → Fr KMd M M' → nrm (rd M' 85) 0 14 → vl (rd M' 85) 0 14 = tlV r sm c g → Q vU M') : C G Y_X12_findRoot d 0 0 [vA 67, vI c, vI g] M Q := by
  refine T_X12_findRoot hM.1 hM.mok hM.2.2.2.2.1.1 hc hg hd (fun M' f hS hn hv => h M' (hM.scr f (fun a j z => KG_sc z) hS) (f.mono (fun a j z => KG_md z)) hn ?_)
  rw [hv, hM.2.1]
  exact (rtV_C hc).symm
theorem Ar_c {a : Int} (hS : Sh M) (ha : a = 41 ∨ a = 42) : Ar M a 0 14 := by
  rcases ha with rfl | rfl
  · exact hS.Ar 41 14 rfl ⟨by decide, by decide, by decide, by decide⟩ (by decide)
  · exact hS.Ar 42 14 rfl ⟨by decide, by decide, by decide, by decide⟩ (by decide)
theorem Ar_85 (hS : Sh M) : Ar M 85 0 14 := hS.Ar 85 14 rfl ⟨by decide, by decide, by decide, by decide⟩ (by decide)
theorem Ar_86 (hS : Sh M) : Ar M 86 0 14 := hS.Ar 86 14 rfl ⟨by decide, by decide, by decide, by decide⟩ (by decide)
end QR
section QP
variable {G : GG} {d : Nat} {M : MM} {q : Int}
theorem P_worth {x : Int} (hx : inR x) (hq : 0 ≤ q ∧ q ≤ 1000) (h : INV q M) (hd : 60 ≤ d) : PR G d 0 0 Y_X11_worth Y_X12_worth [vI x] q M := by
  obtain ⟨r, sm, s, tx, L, ri, si, hC, hM⟩ := h
  unfold PR
  refine C_X11_worth (B_X11_worth_0 (by omega) hC.1.1 ⟨hx, fun c => ?_, fun c => ?_⟩)
  · refine qC hC hq c ⟨by decide, by decide⟩ (by omega) (fun a M' ha C' f' hn hv => ⟨C'.1.1, T_X2_above (Ar_c C'.1.1 ha) hn ⟨by decide, by decide⟩ (by omega) ⟨C'.1.1, ?_⟩⟩)
    have m1 : MI r sm s tx L ri si M' := hM.fc f' (fun a j z => KPl_67 z) C'.1.1
    show CM G Y_X12_worth d [vA 67, vI x] M' _
    refine CM.of C'.1.1 ?_
    refine C_X12_worth (B_X12_worth_0 (by omega) C'.1.1 (fun N1 g1 k1 => ⟨hx, fun _ => ?_, fun w => absurd c w⟩))
    subst g1
    refine qM m1.thr c ⟨by decide, by decide⟩ (by omega) (fun N3 n3 f3 hn3 hv3 => ⟨n3.1, T_X12_digits (Ar_85 n3.1) hn3 ⟨by decide, by decide⟩ (by omega) ⟨n3.1, ?_, ?_⟩⟩)
    · rw [hv3, hv]
    · exact INV.mk' C' n3 ((Fr.rf.wr (K := KMd) ⟨by decide, by decide⟩).tr f3) (fun a j z => z)
  · show CM G Y_X12_worth d [vA 67, vI x] M _
    refine CM.of hM.1 ?_
    refine C_X12_worth (B_X12_worth_0 (by omega) hM.1 (fun N1 g1 k1 => ⟨hx, fun w => absurd w c, fun _ => ?_⟩))
    subst g1
    exact ⟨rfl, fin_thr hC hM⟩
theorem P_odds {x y : Int} (hx : inR x) (hy : inR y) (hq : 0 ≤ q ∧ q ≤ 1000) (h : INV q M) (hd : 60 ≤ d) : PR G d 0 0 Y_X11_odds Y_X12_odds [vI x, vI y] q M := by
  obtain ⟨r, sm, s, tx, L, ri, si, hC, hM⟩ := h
  unfold PR
  have hV := hM.2.2.1.1
  have v0 := hV.1
  have v5 := hV.2.1
  have e0 : rd M 1 0 = r 0 := hC.1.2.1.1.1.1
  have hpl : ∀ v : Int, v = (if y ≠ 7 then 94 else 98) → 0 ≤ v ∧ v ≤ 112 := fun v e => by
    by_cases w : y = 7
    · rw [if_neg (fun z => z w)] at e; omega
    · rw [if_pos w] at e; omega
  have N : ¬ ((0 ≤ x ∧ x ≤ 3) ∧ (0 ≤ y ∧ y ≤ 7) ∧ (4 < y ∨ y < r 0)) → CM G Y_X12_odds d [vA 67, vI x, vI y] M (rI (fun v' M2 => v' = -1 ∧ INV (q + 1) M2)) := by
    intro hn
    have g41 : X G Y_X12_odds d 0 0 41 [vA 67, vI x, vI y, vU] [] (wr M 67 0 0) (rI (fun v' M2 => v' = -1 ∧ INV (q + 1) M2)) := B_X12_odds_41 (by omega) (sW_67_0 hM.1) ⟨rfl, fin_thr hC hM⟩
    have z0 : rd (wr M 67 0 0) 69 0 = r 0 := by rw [rd_wr, if_neg (by decide), hM.2.1]
    refine CM.of hM.1 ?_
    refine C_X12_odds (B_X12_odds_0 (by omega) hM.1 (fun N1 g1 k1 => ?_))
    subst g1
    rw [z0]
    exact ⟨hx, fun _ => g41, fun a1 => ⟨hy, fun _ => g41, fun a2 => ⟨fun a3 => absurd ⟨a1, a2, Or.inl a3⟩ hn, fun a3 => ⟨⟨by omega, by omega⟩, ⟨by omega, by omega⟩, fun _ => g41, fun a4 => absurd ⟨a1, a2, Or.inr (by omega)⟩ hn⟩⟩⟩⟩
  have m37 : ∀ M1, (0 ≤ x ∧ x ≤ 3) → (0 ≤ y ∧ y ≤ 7) → (4 < y ∨ y < r 0) → CI (q + 1) r sm s tx L ri si M1 → MI r sm s tx L ri si M1 → CM G Y_X12_odds d [vA 67, vI x, vI y] M1 (rI (fun v' M2 => v' = dgN (tlV r sm x y) (if y ≠ 7 then 94 else 98) ∧ INV (q + 1) M2)) := by
    intro M1 a1 a2 a3 c1 m1
    have g37 : X G Y_X12_odds d 0 0 37 [vA 67, vI x, vI y, vU] [] (wr M1 67 0 0) (rI (fun v' M2 => v' = dgN (tlV r sm x y) (if y ≠ 7 then 94 else 98) ∧ INV (q + 1) M2)) := by
      refine B_X12_odds_37 (by omega) (sW_67_0 m1.1) (qM m1.thr a1 ⟨by omega, by omega⟩ (by omega) (fun N3 n3 f3 hn3 hv3 => ⟨n3.1, hy, T_X12_digits (Ar_85 n3.1) hn3 (hpl _ rfl) (by omega) ⟨n3.1, ?_, ?_⟩⟩))
      · rw [hv3]
      · exact INV.mk' c1 n3 ((Fr.rf.wr (K := KMd) ⟨by decide, by decide⟩).tr f3) (fun a j z => z)
    have z0 : rd (wr M1 67 0 0) 69 0 = r 0 := by rw [rd_wr, if_neg (by decide), m1.2.1]
    refine CM.of m1.1 ?_
    refine C_X12_odds (B_X12_odds_0 (by omega) m1.1 (fun N1 g1 k1 => ?_))
    subst g1
    rw [z0]
    exact ⟨hx, fun w => absurd a1 w, fun _ => ⟨hy, fun w => absurd a2 w, fun _ => ⟨fun _ => g37, fun w => ⟨⟨by omega, by omega⟩, ⟨by omega, by omega⟩, fun w2 => absurd (by omega) w2, fun _ => g37⟩⟩⟩⟩
  have T : (0 ≤ x ∧ x ≤ 3) → (0 ≤ y ∧ y ≤ 7) → (4 < y ∨ y < r 0) → (x ≠ 3 → X G Y_X11_odds d 0 0 49 [vA 0, vI x, vI y] [] M (rI (fun v M1 => CM G Y_X12_odds d [vA 67, vI x, vI y] M1 (rI (fun v' M2 => v' = v ∧ INV (q + 1) M2))))) ∧ (x = 3 → C G Y_X6_fix (d - 1) 0 0 [vA 39] M (rU (fun M3 => Sh M3 ∧ X G Y_X11_odds d 0 0 49 [vA 0, vI x, vI y] [] M3 (rI (fun v M1 => CM G Y_X12_odds d [vA 67, vI x, vI y] M1 (rI (fun v' M2 => v' = v ∧ INV (q + 1) M2))))))) := by
    intro a1 a2 a3
    have h9 := hC.2.2.1
    have tl : ∀ M3 q', CI q' r sm s tx L ri si M3 → q' ≤ q + 1 → rd M3 44 9 ≤ 200 * (q + 1) → Fr KPl M M3 → (x = 3 → rd M3 39 8 = 1) → X G Y_X11_odds d 0 0 49 [vA 0, vI x, vI y] [] M3 (rI (fun v M1 => CM G Y_X12_odds d [vA 67, vI x, vI y] M1 (rI (fun v' M2 => v' = v ∧ INV (q + 1) M2)))) := by
      intro M3 q' c3 hq' b3 f3 h3
      refine B_X11_odds_49 (by omega) c3.1.1 (qT (q'' := q + 1) c3 b3 hq' (by omega) (by omega) (by omega) h3 (by omega) (fun a M' ha C' f' hn hv => ⟨C'.1.1, hy, T_X2_above (Ar_c C'.1.1 ha) hn (hpl _ rfl) (by omega) ⟨C'.1.1, ?_⟩⟩))
      rw [hv]
      exact m37 M' a1 a2 a3 C' (hM.fc (f3.tr f') (fun a j z => KPl_67 z) C'.1.1)
    exact ⟨fun w => tl M q hC (by omega) (by omega) Fr.rf (fun z => absurd z w), fun w => qF hC hq (by omega) (fun M6 C6 f6 h8 _ b6 => ⟨C6.1.1, tl M6 (q + 1) C6 (by omega) (by omega) f6 (fun _ => h8)⟩)⟩
  refine C_X11_odds (B_X11_odds_0 (by omega) hC.1.1 ⟨hx, fun c => N (by omega), fun c => ⟨hy, fun c2 => N (by omega), fun c2 => ⟨fun c3 => ⟨fun c4 => T c ⟨c2, c3⟩ (Or.inl (by omega)), fun c4 => ⟨by rw [e0]; exact ⟨by omega, by omega⟩, fun c5 => T c ⟨c2, c3⟩ (Or.inr (by rw [e0] at c5; exact c5.2)), fun c5 => N (by rw [e0] at c5; omega)⟩⟩, fun c3 => N (by omega)⟩⟩⟩)
theorem P_figures {x y : Int} (hx : inR x) (hy : inR y) (hq : 0 ≤ q ∧ q ≤ 1000) (h : INV q M) (hd : 60 ≤ d) : PR G d 0 0 Y_X11_figures Y_X12_figures [vI x, vI y] q M := by
  obtain ⟨r, sm, s, tx, L, ri, si, hC, hM⟩ := h
  unfold PR
  have N : ¬ ((0 ≤ x ∧ x ≤ 3) ∧ (0 ≤ y ∧ y ≤ 12)) → CM G Y_X12_figures d [vA 67, vI x, vI y] M (rI (fun v' M2 => v' = -1 ∧ INV (q + 1) M2)) := by
    intro hn
    refine CM.of hM.1 ?_
    refine C_X12_figures (B_X12_figures_0 (by omega) hM.1 (fun N1 g1 k1 => ?_))
    subst g1
    exact ⟨hx, fun _ => ⟨rfl, fin_thr hC hM⟩, fun a1 => ⟨hy, fun a2 => absurd ⟨a1, a2⟩ hn, fun _ => ⟨rfl, fin_thr hC hM⟩⟩⟩
  refine C_X11_figures (B_X11_figures_0 (by omega) hC.1.1 ⟨hx, fun c => N (by omega), fun c => ⟨hy, fun c2 => N (by omega), fun c2 => ⟨fun c3 => ?_, fun c3 => N (by omega)⟩⟩⟩)
  refine qC hC hq c ⟨by decide, by decide⟩ (by omega) (fun a M' ha C' f' hn hv => ⟨C'.1.1, T_X2_nine (Ar_c C'.1.1 ha) hn ⟨by omega, by omega⟩ (by omega) ⟨C'.1.1, ?_⟩⟩)
  rw [hv]
  have m1 : MI r sm s tx L ri si M' := hM.fc f' (fun a j z => KPl_67 z) C'.1.1
  show CM G Y_X12_figures d [vA 67, vI x, vI y] M' _
  refine CM.of C'.1.1 ?_
  refine C_X12_figures (B_X12_figures_0 (by omega) C'.1.1 (fun N1 g1 k1 => ⟨hx, fun w => absurd c w, fun _ => ⟨hy, fun _ => ?_, fun w => absurd ⟨c2, c3⟩ w⟩⟩))
  subst g1
  refine qM m1.thr c ⟨by decide, by decide⟩ (by omega) (fun N3 n3 f3 hn3 hv3 => ⟨n3.1, fun v5 e5 => ?_⟩)
  have key : ∀ m k : Nat, k + m = 9 → X G Y_X12_figures d 0 0 44 [vA 67, vI x, vI y, vI (nnF (rd N3 85) (9 * y) k), vI (9 * y + (8 - (k : Int)))] [] N3 (rI (fun v' M2 => v' = nnN (tlV r sm x 8) (9 * y) ∧ INV (q + 1) M2)) := by
    intro m
    induction m with
    | zero =>
      intro k hk
      refine B_X12_figures_44 (by omega) n3.1 ⟨⟨by omega, by omega⟩, ⟨by omega, by omega⟩, fun _ => ⟨?_, INV.mk' C' n3 ((Fr.rf.wr (K := KMd) ⟨by decide, by decide⟩).tr f3) (fun a j z => z)⟩, fun w => by omega⟩
      have ek : k = 9 := by omega
      subst ek
      unfold nnN
      exact nnF_congr (by omega) (limbs hn3 hv3) 9 (by omega)
    | succ m ih =>
      intro k hk
      have g := ih (k + 1) (by omega)
      rw [nnF, show (9 * y + (8 - ((k + 1 : Nat) : Int))) = 9 * y + (8 - (k : Int)) + -1 by omega] at g
      refine B_X12_figures_44 (by omega) n3.1 ⟨⟨by omega, by omega⟩, ⟨by omega, by omega⟩, fun w => by omega, fun _ => ⟨fun w v3 e3 => ?_, fun w => ⟨Ar_85 n3.1, hn3, ⟨by omega, by omega⟩, fun v7 e7 => ?_⟩⟩⟩
      · rw [if_neg (by omega), Int.mul_comm _ 10, ← e3] at g
        exact g
      · rw [if_pos w, Int.mul_comm _ 10, ← e7] at g
        exact g
  have g0 := key 9 0 rfl
  rw [show (9 * y + (8 - ((0 : Nat) : Int))) = v5 by omega] at g0
  exact g0
theorem P_were {x : Int} (hx : inR x) (h : INV q M) (hd : 60 ≤ d) : PR G d 0 0 Y_X11_were Y_X12_were [vI x] q M := by
  obtain ⟨r, sm, s, tx, L, ri, si, hC, hM⟩ := h
  unfold PR
  have hO := hC.1.2.1.1
  have e13 : rd M 1 13 = (if r 5 = -1 then 0 else 1) := hO.1.2.2.2.2.2.2.2.2.2.1
  have h13 : (rd M 1 13 = 0 ∧ r 5 = -1) ∨ (rd M 1 13 = 1 ∧ r 5 ≠ -1) := by
    by_cases w : r 5 = -1
    · rw [if_pos w] at e13; exact Or.inl ⟨e13, w⟩
    · rw [if_neg w] at e13; exact Or.inr ⟨e13, w⟩
  have fin : ∀ M1 v, CI (q + 1) r sm s tx L ri si M1 → MI r sm s tx L ri si M1 → v = (if 0 ≤ x ∧ x ≤ 5 ∧ r 5 ≠ -1 then weV r sm x else -1) → CM G Y_X12_were d [vA 67, vI x] M1 (rI (fun v' M2 => v' = v ∧ INV (q + 1) M2)) := by
    intro M1 v c1 m1 ev
    refine CM.of m1.1 ?_
    refine T_X12_were m1.1 m1.mok m1.2.1 hx (by omega) (fun M' f' s' => ⟨ev.symm, ?_⟩)
    exact INV.mk' c1 (m1.scr f' (fun a j z => by unfold KWr KLk KPs KA at z; unfold KSc; omega) s') f' (fun a j z => by unfold KWr KLk KPs KA at z; omega)
  refine C_X11_were (B_X11_were_0 (by omega) hC.1.1 ⟨hx, by rcases h13 with w | w; exact ⟨by omega, by omega⟩; exact ⟨by omega, by omega⟩, fun c => fin M _ (hC.up (by omega)) hM (by rw [if_neg (by omega)]), fun c => ?_⟩)
  have hne : r 5 ≠ -1 := by omega
  refine T_X1_likely hC.1.1 hO hne ⟨by omega, by omega⟩ (by omega) (fun M' f' s' => ⟨s', ?_⟩)
  have c1 : CI (q + 1) r sm s tx L ri si M' := hC.to (hC.1.frM f' (fun a j z => by unfold KCt at z; omega) s') f' (fun a j z => by unfold KCt at z; omega) (by rw [f'.2.2 32 9 (by unfold KCt; omega), f'.2.2 44 9 (by unfold KCt; omega)]; have := hC.2.2.1; omega)
  exact fin M' _ c1 (hM.fc f' (fun a j z => by unfold KCt at z; omega) s') (by rw [if_pos ⟨by omega, by omega, hne⟩])
theorem P_rows (h : INV q M) (hd : 60 ≤ d) : PR G d 0 0 Y_X11_rows Y_X12_rows [] q M := by
  obtain ⟨r, sm, s, tx, L, ri, si, hC, hM⟩ := h
  unfold PR
  refine C_X11_rows (B_X11_rows_0 (by omega) hC.1.1 (T_X6_listed hC.1 (by omega) (fun M' hP f' _ _ => ⟨hP.1, ?_⟩)))
  have c1 : CI (q + 1) r sm s tx L ri si M' := hC.to hP f' (fun a j z => by omega) (by rw [f'.2.2 32 9 (by omega), f'.2.2 44 9 (by omega)]; have := hC.2.2.1; omega)
  have m1 : MI r sm s tx L ri si M' := hM.fc f' (fun a j z => by omega) hP.1
  show CM G Y_X12_rows d [vA 67] M' _
  refine CM.of hP.1 ?_
  refine C_X12_rows (B_X12_rows_0 (by omega) hP.1 (fun N1 g1 k1 => ?_))
  subst g1
  have n1 := m1.thr (v := 0)
  refine T_X12_findFixed n1.1 n1.mok n1.2.2.2.2.1.1 (by omega) (fun N2 f2 k2 hA => ⟨k2, ?_, ?_⟩)
  · rw [hA.1, n1.2.1]
  · exact INV.mk' c1 (n1.scr f2 (fun a j z => KG_sc z) k2) ((Fr.rf.wr (K := KMd) ⟨by decide, by decide⟩).tr (f2.mono (fun a j z => KG_md z))) (fun a j z => z)
theorem P_fixed {x : Int} (hx : inR x) (hq : 0 ≤ q ∧ q ≤ 1000) (h : INV q M) (hd : 60 ≤ d) : PR G d 0 0 Y_X11_fixed Y_X12_fixed [vI x] q M := by
  obtain ⟨r, sm, s, tx, L, ri, si, hC, hM⟩ := h
  unfold PR
  have hV := hM.2.2.1.1
  obtain ⟨efix, hnd, -⟩ := fixL_ok sm hV
  have hl5 := hnd.2.1
  refine C_X11_fixed (B_X11_fixed_0 (by omega) hC.1.1 (qF hC hq (by omega) (fun M1 C1 f1 h8 hF b1 => ?_)))
  have e4 := hF.1.1
  have e31 := hF.1.2
  have m1 : MI r sm s tx L ri si M1 := hM.fc f1 (fun a j z => KPl_67 z) C1.1.1
  have mdl : ∀ v, v = (if 0 ≤ x ∧ x < (fixL r sm).length then rowf (fixL r sm) x else -1) → CM G Y_X12_fixed d [vA 67, vI x] M1 (rI (fun v' M2 => v' = v ∧ INV (q + 1) M2)) := by
    intro v ev
    refine CM.of C1.1.1 ?_
    refine C_X12_fixed (B_X12_fixed_0 (by omega) C1.1.1 (fun N1 g1 k1 => ?_))
    subst g1
    have n1 := m1.thr (v := 0)
    refine T_X12_findFixed n1.1 n1.mok n1.2.2.2.2.1.1 (by omega) (fun N2 f2 k2 hA => ?_)
    rw [n1.2.1, efix] at hA
    obtain ⟨-, -, a3⟩ := hA
    dsimp only at a3
    obtain ⟨-, a4, a5, -⟩ := a3
    have fin : INV (q + 1) N2 := INV.mk' C1 (n1.scr f2 (fun a j z => KG_sc z) k2) ((Fr.rf.wr (K := KMd) ⟨by decide, by decide⟩).tr (f2.mono (fun a j z => KG_md z))) (fun a j z => z)
    refine ⟨k2, hx, by rw [a4]; exact ⟨by omega, by omega⟩, by rw [a4]; exact ⟨by omega, by omega⟩, fun w => ⟨?_, fin⟩, fun w => ⟨by omega, by omega, ?_, fin⟩⟩
    · rw [a4] at w; rw [ev, if_neg (by omega)]
    · rw [a4] at w; rw [ev, if_pos (by omega), a5 x (by omega) (by omega)]
  refine ⟨C1.1.1, hx, by rw [e4]; exact ⟨by omega, by omega⟩, fun w => mdl _ ?_, fun w => ⟨by omega, by omega, mdl _ ?_⟩⟩
  · rw [e4] at w; rw [if_neg (by omega)]
  · rw [e4] at w; rw [if_pos (by omega), e31 x (by omega) (by omega)]
end QP
