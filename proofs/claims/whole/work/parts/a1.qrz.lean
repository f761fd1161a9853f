/-! ===== pairs of calls that ask: gaps, evenings of one sort, the next scene ===== -/
section QS
variable {G : GG} {d : Nat} {M : MM} {Q : PV → MM → Prop} {r : Int → Int} {sm : Int → LSm} {s tx : Int → Int} {L : List (Int × Int × Int)} {ri : Int → Int → Int} {si : Int → Int → LSm} {q on : Int}
theorem VS0 {r : Int → Int} (hV : RS r) : VS (r 0) 0 (-1) := by
  have := shl_ok hV.1 hV.2.1
  have := hV.1
  exact ⟨by decide, by omega, by decide, by omega, Or.inl ⟨rfl, rfl⟩⟩
theorem rkB (hS : Sh M) (hM : MOK M sm) (er : rd M 69 = r) (h39 : rd M 67 39 = on) (hon : -1 ≤ on ∧ on ≤ 1) (hd : 9 ≤ d) (h : ∀ M', Fr KR M M' → Sh M' → (∀ z o : Int, RZ z o → TbE M' 0 (-1) z o (VV r sm (gl 8 on) (cBs r) 0 (-1) z o).1) → Q vU M') : C G Y_X12_reckon_ d 0 0 [vA 67, vI 8, vI 1] M Q := by
  have hV : RS r := by rw [← er]; exact hM.1
  refine T_X12_reckon (sm := sm) (g := gl 8 on) (can := cBs r) hS hM (by rw [h39]; exact ⟨by decide, by decide, hon.1, hon.2, fun _ => rfl⟩) (by rw [h39]) (Or.inr rfl) (by rw [er]; exact cBs_R) (fun _ p l z o s hv s0 s1 => ?_) (fun w => absurd w (by decide)) hd (fun M1 f1 hS1 hv1 => h M1 f1 hS1 (fun z o hz => ?_))
  · rw [er] at hv ⊢
    have := VS_rng hv ⟨hV.1, hV.2.1⟩
    exact cBs_iff hV ⟨this.1, this.2.1⟩ ⟨s0, s1⟩
  · have := (hv1 0 (-1) z o (by rw [er]; exact VS0 hV) hz.1.1 hz.1.2 hz.2.1 hz.2.2).1
    rw [er] at this
    exact this
theorem KR_sc {a j : Int} (h : KR a j) : KSc a j := by unfold KR KE KA at h; unfold KSc; omega
theorem KR_md {a j : Int} (h : KR a j) : KMd a j := by unfold KR KE KA at h; unfold KMd; omega
theorem sta0 {z o : Int} (hz : RZ z o) : 0 ≤ sta 0 (-1) z o ∧ sta 0 (-1) z o < 36 := by obtain ⟨⟨a, b⟩, c, e⟩ := hz; unfold sta; omega
theorem P_seeing (hq : 0 ≤ q ∧ q ≤ 1000) (h : INV q M) (hd : 60 ≤ d) : PR G d 0 0 Y_X11_seeing Y_X12_seeing [] q M := by
  obtain ⟨r, sm, s, tx, L, ri, si, hC, hM⟩ := h
  unfold PR
  refine C_X11_seeing (B_X11_seeing_0 (by omega) hC.1.1 (qF hC hq (by omega) (fun M1 C1 f1 h8 hF b1 => ⟨C1.1.1, T_X6_seeingGap C1.1 h8 (by omega) (fun M2 P2 f2 e2 => ⟨P2.1, ?_⟩)⟩)))
  have h9 := C1.2.2.1
  have C2 : CI (q + 1) r sm s tx L ri si M2 := C1.to P2 f2 (fun a j z => KPl_ok z) (by omega)
  have m2 : MI r sm s tx L ri si M2 := hM.fc (f1.tr f2) (fun a j z => KPl_67 z) P2.1
  show CM G Y_X12_seeing d [vA 67] M2 _
  refine CM.of P2.1 ?_
  refine C_X12_seeing (B_X12_seeing_0 (by omega) P2.1 (fun N1 g1 k1 => ?_))
  subst g1
  refine qM m2.thr ⟨by decide, by decide⟩ ⟨by decide, by decide⟩ (by omega) (fun N2 n2 fn2 hn2 hv2 => ⟨n2.1, ?_⟩)
  have key : ∀ m k : Nat, k + m = 14 → ∀ Mk, MI r sm s tx L ri si Mk → Fr KMd M2 Mk → (∀ j, rd Mk 85 j = rd N2 85 j) → (∀ i : Int, 0 ≤ i → i < k → rd Mk 86 i = rd N2 85 i) → X G Y_X12_seeing d 0 0 14 [vA 67, vI k] [] Mk (rI (fun v' M2 => v' = gpN (tlV r sm 2 8) (tlV r sm 3 8) ∧ INV (q + 1) M2)) := by
    intro m
    induction m with
    | zero =>
      intro k hk Mk mk fk k85 k86
      have ek : k = 14 := by omega
      subst ek
      refine B_X12_seeing_14 (by omega) mk.1 ⟨⟨by omega, by omega⟩, fun _ => ?_, fun w => by omega⟩
      refine T_X12_findRoot mk.1 mk.mok mk.2.2.2.2.1.1 ⟨by decide, by decide⟩ ⟨by decide, by decide⟩ (by omega) (fun N3 f3 s3 hn3 hv3 => ⟨s3, ?_⟩)
      rw [mk.2.1] at hv3
      have e86 : ∀ i : Int, 0 ≤ i → i < 14 → rd N3 86 (0 + i) = rd N2 85 (0 + i) := fun i i0 i1 => by
        rw [Int.zero_add, f3.2.2 86 i (by unfold KG KF KR KE KA; omega)]; exact k86 i i0 (by omega)
      refine T_X12_lessOf (A := tlV r sm 2 8) (B := tlV r sm 3 8) s3 (Ar_85 s3) (Ar_86 s3) (by decide) (by decide) hn3 (by rw [hv3]; exact (rtV_C ⟨by decide, by decide⟩).symm) (fun i i0 i1 => by rw [e86 i i0 i1]; exact hn2 i i0 i1) (by rw [vl_congr e86]; exact hv2) (by omega) (fun N4 c4 s4 => ⟨s4, rfl, ?_⟩)
      have f4 : Fr KSc N3 N4 := Fr.ch c4 (fun j _ _ => by unfold KSc; omega)
      exact INV.mk' C2 ((mk.scr f3 (fun a j z => KG_sc z) s3).scr f4 (fun a j z => z) s4) ((fk.tr (f3.mono (fun a j z => KG_md z))).tr (Fr.ch c4 (fun j _ _ => ⟨by decide, by decide⟩))) (fun a j z => z)
    | succ m ih =>
      intro k hk Mk mk fk k85 k86
      refine B_X12_seeing_14 (by omega) mk.1 ⟨⟨by omega, by omega⟩, fun w => by omega, fun _ => ⟨by omega, by omega, fun N7 g7 k7 => ?_⟩⟩
      have f7 : Fr (fun a _ => a = 86) Mk N7 := by rw [g7]; exact Fr.rf.wr rfl
      have g := ih (k + 1) (by omega) N7 (mk.scr f7 (fun a j z => by unfold KSc; omega) k7) (fk.tr (f7.mono (fun a j z => by unfold KMd; omega))) (fun j => by rw [f7.2.2 85 j (by omega)]; exact k85 j) (fun i i0 i1 => ?_)
      · rw [show ((k + 1 : Nat) : Int) = (k : Int) + 1 by omega] at g
        exact g
      · rw [g7, rd_wr]
        by_cases w : i = k
        · rw [if_pos ⟨rfl, w⟩, w]; exact k85 k
        · rw [if_neg (fun z => w z.2)]; exact k86 i i0 (by omega)
  exact key 14 0 rfl N2 n2 ((Fr.rf.wr (K := KMd) ⟨by decide, by decide⟩).tr fn2) (fun _ => rfl) (fun i i0 i1 => by omega)
theorem P_loss {x : Int} (hx : inR x) (hq : 0 ≤ q ∧ q ≤ 1000) (h : INV q M) (hd : 60 ≤ d) : PR G d 0 0 Y_X11_loss Y_X12_loss [vI x] q M := by
  obtain ⟨r, sm, s, tx, L, ri, si, hC, hM⟩ := h
  unfold PR
  have hV := hM.2.2.1.1
  have hp := RZp hV
  have hO := hC.1.2.1.1
  have e5 := hO.1.2.2.1
  have N : ¬ ((x = 0 ∨ x = 1) ∧ r (30 + 3 * x) ≠ 0) → CM G Y_X12_loss d [vA 67, vI x] M (rI (fun v' M2 => v' = -1 ∧ INV (q + 1) M2)) := by
    intro hn
    refine CM.of hM.1 ?_
    refine C_X12_loss (B_X12_loss_0 (by omega) hM.1 (fun N1 g1 k1 => ?_))
    subst g1
    refine ⟨hx, fun _ => ⟨rfl, fin_thr hC hM⟩, fun w => ?_⟩
    have er : rd (wr M 67 0 0) 69 = r := hM.thr.2.1
    rw [er, if_neg (fun z => z w)]
    have hx2 : x = 0 ∨ x = 1 := by omega
    have hz : r (30 + 3 * x) = 0 := Decidable.byContradiction fun z => hn ⟨hx2, z⟩
    rw [hz]
    exact ⟨by omega, by omega, ⟨by decide, by decide⟩, fun z => absurd rfl z, fun _ => ⟨rfl, fin_thr hC hM⟩⟩
  refine C_X11_loss (B_X11_loss_0 (by omega) hC.1.1 ⟨hx, fun c => N (fun z => c z.1), fun c => ?_⟩)
  have ex : rd M 5 x = r (30 + 3 * x) := (e5 x (by omega) (by omega)).1
  have bx := hV.2.2.2.1 x (by omega) (by omega)
  rw [ex]
  refine ⟨by omega, by omega, ⟨by omega, by omega⟩, fun c2 => ?_, fun c2 => N (fun z => z.2 c2)⟩
  refine T_X6_lossGap hC.1 c c2 (by omega) (fun M2 P2 f2 e2 => ⟨P2.1, ?_⟩)
  have h9 := hC.2.2.1
  have C2 : CI (q + 1) r sm s tx L ri si M2 := hC.to P2 f2 (fun a j z => KPl_ok z) (by omega)
  have m2 : MI r sm s tx L ri si M2 := hM.fc f2 (fun a j z => KPl_67 z) P2.1
  have hif : (if x = 0 then (1 : Int) else 0) = 1 - x := by rcases c with rfl | rfl <;> rfl
  have hz2 : RZ (r 30 - (if x = 0 then 1 else 0)) (r 33 - x) := by
    obtain ⟨⟨a, b⟩, e, f⟩ := hp
    rcases c with rfl | rfl
    · have : r (30 + 3 * 0) = r 30 := rfl
      exact ⟨⟨by rw [if_pos rfl]; omega, by rw [if_pos rfl]; omega⟩, by omega, by omega⟩
    · have : r (30 + 3 * 1) = r 33 := rfl
      exact ⟨⟨by rw [if_neg (by decide)]; omega, by rw [if_neg (by decide)]; omega⟩, by omega, by omega⟩
  have st1 := sta0 hp
  have st2 := sta0 hz2
  show CM G Y_X12_loss d [vA 67, vI x] M2 _
  refine CM.of P2.1 ?_
  refine C_X12_loss (B_X12_loss_0 (by omega) P2.1 (fun N1 g1 k1 => ?_))
  have n1 : MI r sm s tx L ri si N1 := by rw [g1]; exact m2.thr
  have fn1 : Fr KMd M2 N1 := by rw [g1]; exact Fr.rf.wr ⟨by decide, by decide⟩
  refine ⟨hx, fun w => absurd (by omega) w, fun w => ?_⟩
  rw [n1.2.1, if_neg (fun z => z w)]
  refine ⟨by omega, by omega, ⟨by omega, by omega⟩, fun _ => ?_, fun z => absurd z c2⟩
  refine rkB n1.1 n1.mok n1.2.1 n1.2.2.2.2.1.1 ⟨by decide, by decide⟩ (by omega) (fun N10 f10 s10 hT => ⟨s10, fun v15 e15 => ?_⟩)
  have n10 := n1.scr f10 (fun a j z => KR_sc z) s10
  have e15' : v15 = 14 * sta 0 (-1) (r 30 - (if x = 0 then 1 else 0)) (r 33 - x) := by rw [e15, n10.2.1]; rfl
  have key : ∀ m k : Nat, k + m = 14 → ∀ Mk, MI r sm s tx L ri si Mk → Fr KMd M2 Mk → (∀ j, rd Mk 81 j = rd N10 81 j) → (∀ i : Int, 0 ≤ i → i < k → rd Mk 86 i = rd N10 81 (v15 + i)) → X G Y_X12_loss d 0 0 89 [vA 67, vI x, vI v15, vI k] [] Mk (rI (fun v' M2 => v' = gpN (VV r sm 8 (cBs r) 0 (-1) (r 30) (r 33)).1 (VV r sm 8 (cBs r) 0 (-1) (r 30 - (if x = 0 then 1 else 0)) (r 33 - x)).1 ∧ INV (q + 1) M2)) := by
    intro m
    induction m with
    | zero =>
      intro k hk Mk mk fk k81 k86
      have ek : k = 14 := by omega
      subst ek
      refine B_X12_loss_89 (by omega) mk.1 ⟨⟨by omega, by omega⟩, fun _ => ?_, fun w => by omega⟩
      rw [mk.2.1]
      have t1 := hT _ _ hp
      have t2 := hT _ _ hz2
      have e81 : ∀ i : Int, rd Mk 81 (14 * sta 0 (-1) (r 30) (r 33) + i) = rd N10 81 (14 * sta 0 (-1) (r 30) (r 33) + i) := fun i => k81 _
      have e86 : ∀ i : Int, 0 ≤ i → i < 14 → rd Mk 86 (0 + i) = rd N10 81 (14 * sta 0 (-1) (r 30 - (if x = 0 then 1 else 0)) (r 33 - x) + i) := fun i i0 i1 => by rw [Int.zero_add, k86 i i0 (by omega), e15']
      refine T_X12_lessOf (at' := 14 * sta 0 (-1) (r 30) (r 33)) (A := (VV r sm 8 (cBs r) 0 (-1) (r 30) (r 33)).1) (B := (VV r sm 8 (cBs r) 0 (-1) (r 30 - (if x = 0 then 1 else 0)) (r 33 - x)).1) mk.1 (mk.1.Ar 81 96768 rfl ⟨by decide, by decide, by omega, by decide⟩ (by omega)) (Ar_86 mk.1) (by decide) (by decide) (fun i i0 i1 => by rw [e81]; exact t1.1 i i0 i1) (by rw [vl_congr (fun i _ _ => e81 i)]; exact t1.2) (fun i i0 i1 => by rw [e86 i i0 i1]; exact t2.1 i i0 i1) (by rw [vl_congr e86]; exact t2.2) (by omega) (fun N4 c4 s4 => ⟨s4, rfl, ?_⟩)
      have f4 : Fr KSc Mk N4 := Fr.ch c4 (fun j _ _ => by unfold KSc; omega)
      exact INV.mk' C2 (mk.scr f4 (fun a j z => z) s4) (fk.tr (Fr.ch c4 (fun j _ _ => ⟨by decide, by decide⟩))) (fun a j z => z)
    | succ m ih =>
      intro k hk Mk mk fk k81 k86
      refine B_X12_loss_89 (by omega) mk.1 ⟨⟨by omega, by omega⟩, fun w => by omega, fun _ => ⟨by omega, by omega, by omega, by omega, fun N7 g7 k7 => ?_⟩⟩
      have f7 : Fr (fun a _ => a = 86) Mk N7 := by rw [g7]; exact Fr.rf.wr rfl
      have g := ih (k + 1) (by omega) N7 (mk.scr f7 (fun a j z => by unfold KSc; omega) k7) (fk.tr (f7.mono (fun a j z => by unfold KMd; omega))) (fun j => by rw [f7.2.2 81 j (by omega)]; exact k81 j) (fun i i0 i1 => ?_)
      · rw [show ((k + 1 : Nat) : Int) = (k : Int) + 1 by omega] at g
        exact g
      · rw [g7, rd_wr]
        by_cases w : i = k
        · rw [if_pos ⟨rfl, w⟩, w]; exact k81 _
        · rw [if_neg (fun z => w z.2)]; exact k86 i i0 (by omega)
  exact key 14 0 rfl N10 n10 (fn1.tr (f10.mono (fun a j z => KR_md z))) (fun _ => rfl) (fun i i0 i1 => by omega)
theorem P_evening {x : Int} (hx : inR x) (hq : 0 ≤ q ∧ q ≤ 1000) (h : INV q M) (hd : 60 ≤ d) : PR G d 0 0 Y_X11_evening Y_X12_evening [vI x] q M := by
  obtain ⟨r, sm, s, tx, L, ri, si, hC, hM⟩ := h
  unfold PR
  have hV := hM.2.2.1.1
  have hp := RZp hV
  have st1 := sta0 hp
  have h9 := hC.2.2.1
  refine C_X11_evening (B_X11_evening_0 (by omega) hC.1.1 ⟨hx, fun c => ?_, fun c => ?_⟩)
  · refine qT (q'' := q + 1) hC (by omega) (by omega) (by omega) ⟨by decide, by decide⟩ ⟨by omega, by omega⟩ (fun w => absurd w (by decide)) (by omega) (fun a M' ha C' f' hn hv => ⟨C'.1.1, T_X2_above (Ar_c C'.1.1 ha) hn ⟨by decide, by decide⟩ (by omega) ⟨C'.1.1, ?_⟩⟩)
    rw [hv]
    have m1 : MI r sm s tx L ri si M' := hM.fc f' (fun a j z => KPl_67 z) C'.1.1
    show CM G Y_X12_evening d [vA 67, vI x] M' _
    refine CM.of C'.1.1 ?_
    refine C_X12_evening (B_X12_evening_0 (by omega) C'.1.1 (fun N1 g1 k1 => ⟨hx, fun _ N3 g3 k3 => ?_, fun w => absurd (by omega) w⟩))
    have n1 : MI r sm s tx L ri si N1 := by rw [g1]; exact m1.thr
    have fn1 : Fr KMd M' N1 := by rw [g1]; exact Fr.rf.wr ⟨by decide, by decide⟩
    have e69 : rd N3 69 = r := by rw [← n1.2.1, g3]; exact funext fun j => by rw [rd_wr, if_neg (by omega)]
    refine rkB (on := x) k3 ⟨by rw [e69]; exact hV, by rw [e69]; exact n1.2.2.1.2⟩ e69 (by rw [g3, rd_wr, if_pos ⟨rfl, rfl⟩]) (by omega) (by omega) (fun N4 f4 s4 hT => ⟨s4, fun N5 g5 k5 => ?_⟩)
    have f5 : Fr KR N1 N5 := ⟨by rw [g5, mN_wr, f4.1, g3, mN_wr], fun b => by rw [g5, mT_wr, f4.2.1, g3, mT_wr], fun a j w => by
      rw [g5, rd_wr]
      by_cases z : a = 67 ∧ j = 39
      · rw [if_pos z, z.1, z.2]; exact n1.2.2.2.2.1.1.symm
      · rw [if_neg z, f4.2.2 a j w, g3, rd_wr, if_neg z]⟩
    have n5 := n1.scr f5 (fun a j z => KR_sc z) k5
    have e81 : ∀ j, rd N5 81 j = rd N4 81 j := fun j => by rw [g5, rd_wr, if_neg (by omega)]
    have key : ∀ m k : Nat, k + m = 14 → ∀ Mk, MI r sm s tx L ri si Mk → Fr KMd M' Mk → (∀ j, rd Mk 81 j = rd N4 81 j) → (∀ i : Int, 0 ≤ i → i < k → rd Mk 85 i = rd N4 81 (14 * sta 0 (-1) (r 30) (r 33) + i)) → X G Y_X12_evening d 0 0 36 [vA 67, vI x, vI k] [] Mk (rI (fun v' M2 => v' = dgN (tlV r sm 4 (9 + x)) 98 ∧ INV (q + 1) M2)) := by
      intro m
      induction m with
      | zero =>
        intro k hk Mk mk fk k81 k85
        have ek : k = 14 := by omega
        subst ek
        have t1 := hT _ _ hp
        have e85 : ∀ i : Int, 0 ≤ i → i < 14 → rd Mk 85 (0 + i) = rd N4 81 (14 * sta 0 (-1) (r 30) (r 33) + i) := fun i i0 i1 => by rw [Int.zero_add]; exact k85 i i0 (by omega)
        refine B_X12_evening_36 (by omega) mk.1 ⟨⟨by omega, by omega⟩, fun _ => T_X12_digits (Ar_85 mk.1) (fun i i0 i1 => by rw [e85 i i0 i1]; exact t1.1 i i0 i1) ⟨by decide, by decide⟩ (by omega) ⟨mk.1, ?_, INV.mk' C' mk fk (fun a j z => z)⟩, fun w => by omega⟩
        rw [vl_congr e85, t1.2]
        have eg : gl 8 x = 9 + x := by unfold gl; rw [if_neg (by omega)]
        rw [eg]
        rfl
      | succ m ih =>
        intro k hk Mk mk fk k81 k85
        refine B_X12_evening_36 (by omega) mk.1 ?_
        rw [mk.2.1, show (14 * ((((((((0 : Int) * 6) + (-1 : Int)) + 1) * 6) + (r 30)) * 6) + (r 33))) = 14 * sta 0 (-1) (r 30) (r 33) from rfl]
        refine ⟨⟨by omega, by omega⟩, fun w => by omega, fun _ => ⟨by omega, by omega, by omega, by omega, fun N7 g7 k7 => ?_⟩⟩
        have f7 : Fr (fun a _ => a = 85) Mk N7 := by rw [g7]; exact Fr.rf.wr rfl
        have g := ih (k + 1) (by omega) N7 (mk.scr f7 (fun a j z => by unfold KSc; omega) k7) (fk.tr (f7.mono (fun a j z => by unfold KMd; omega))) (fun j => by rw [f7.2.2 81 j (by omega)]; exact k81 j) (fun i i0 i1 => ?_)
        · rw [show ((k + 1 : Nat) : Int) = (k : Int) + 1 by omega] at g
          exact g
        · rw [g7, rd_wr]
          by_cases w : i = k
          · rw [if_pos ⟨rfl, w⟩, w]; exact k81 _
          · rw [if_neg (fun z => w z.2)]; exact k85 i i0 (by omega)
    exact key 14 0 rfl N5 n5 (fn1.tr (f5.mono (fun a j z => KR_md z))) e81 (fun i i0 i1 => by omega)
  · show CM G Y_X12_evening d [vA 67, vI x] M _
    refine CM.of hM.1 ?_
    refine C_X12_evening (B_X12_evening_0 (by omega) hM.1 (fun N1 g1 k1 => ⟨hx, fun w => absurd (by omega) c, fun _ => ?_⟩))
    subst g1
    exact ⟨rfl, fin_thr hC hM⟩
end QS
