/-! ===== pairs of calls: an evening, nights ===== -/
section RU
variable {G : GG} {d : Nat} {M M' : MM} {Q : PV → MM → Prop} {r : Int → Int} {sm : Int → LSm} {s tx : Int → Int} {L L' : List (Int × Int × Int)} {ri : Int → Int → Int} {si : Int → Int → LSm} {q q' c : Int}
theorem KWm_sc {a j : Int} (h : KWm a j) : KSc a j := by unfold KWm KA at h; unfold KSc; omega
theorem KWm_md {a j : Int} (h : KWm a j) : KMd a j := by unfold KWm KA at h; unfold KMd; omega
theorem tMk_w {a i v p l z o : Int} (ha : 51 ≤ a) (h : tMk M 32 p l z o) : tMk (wr M a i v) 32 p l z o := by
  unfold tMk at h ⊢
  rw [rd_wr, if_neg (by omega), rd_wr, if_neg (by omega)]
  exact h
theorem P_run {x1 x2 : Int} (h1 : inR x1) (h2 : inR x2) (hq : 0 ≤ q ∧ q ≤ 1000) (h : INV q M) (hd : 60 ≤ d) : PR G d 0 0 Y_X11_run Y_X12_run [vI x1, vI x2] q M := by
  obtain ⟨r, sm, s, tx, L, ri, si, hC, hM⟩ := h
  unfold PR
  have hV := hM.2.2.1.1
  have hp := RZp hV
  have N : ¬ ((0 ≤ x1 ∧ x1 ≤ 3) ∧ (0 ≤ x2 ∧ x2 ≤ 1000000)) → CM G Y_X12_run d [vA 67, vI x1, vI x2] (refM M (-1)) (rI (fun v' M2 => v' = -1 ∧ INV (q + 1) M2)) := by
    intro hn
    have sR : Sh (refM M (-1)) := sRef hC.1.1
    refine CM.of sR ?_
    refine C_X12_run (B_X12_run_0 (by omega) sR (fun N1 g1 k1 => ?_))
    subst g1
    exact ⟨h1, fun _ M3 e3 _ => by subst e3; exact ⟨rfl, fin_ref hC hM (Or.inl rfl)⟩, fun a1 => ⟨h2, fun a2 => absurd ⟨a1, a2⟩ hn, fun _ M9 e9 _ => by subst e9; exact ⟨rfl, fin_ref hC hM (Or.inl rfl)⟩⟩⟩
  generalize hE : evF r sm (chC r sm x1) 5 0 (-1) (r 30) (r 33) x2 = E
  have hEo : (0 ≤ x2 ∧ x2 ≤ 1000000) → E.1.length ≤ 5 := fun w => by
    rw [← hE]; exact (evF_ok (sm := sm) hV (chC_R hV) 5 0 (-1) (r 30) (r 33) x2 NS0 hp ⟨w.1, by omega⟩).1
  have Y : (0 ≤ x1 ∧ x1 ≤ 3) → (0 ≤ x2 ∧ x2 ≤ 1000000) → ∀ M1, CI (q + 1) r sm (accS s) tx E.1 ri si M1 → MI r sm s tx L ri si M1 → CM G Y_X12_run d [vA 67, vI x1, vI x2] M1 (rI (fun v' M2 => v' = E.1.length ∧ INV (q + 1) M2)) := by
    intro a1 a2 M1 c1 m1
    have hlen := hEo a2
    refine CM.of m1.1 ?_
    refine C_X12_run (B_X12_run_0 (by omega) m1.1 (fun N1 g1 k1 => ⟨h1, fun w => absurd a1 w, fun _ => ⟨h2, fun _ => ?_, fun w => absurd a2 w⟩⟩))
    subst g1
    refine chM m1.thr a1 (by omega) (fun N5 n5 f5 mc => ⟨n5.1, fun N6 g6 k6 => ?_⟩)
    have f6 : Fr (fun a j => a = 67 ∧ j = 47) N5 N6 := by rw [g6]; exact Fr.rf.wr ⟨rfl, rfl⟩
    have n6 := n5.scr f6 (fun a j z => by unfold KSc; omega) k6
    rw [n6.2.1]
    refine T_X12_goThrough n6.1 n6.mok n6.2.1 a1 (mc.fr f6 (fun a j z => by omega)) hp (by rw [g6, rd_wr, if_pos ⟨rfl, rfl⟩]) ⟨a2.1, by omega⟩ hE (by omega) (fun N7 f7 k7 W7 _ _ _ => ⟨k7, fun N8 g8 k8 => ?_⟩)
    have n7 := n6.scr f7 (fun a j z => KWm_sc z) k7
    have key : ∀ m k : Nat, k + m = 15 → ∀ Mk, Sh Mk → Fr (fun a _ => a = 93) N8 Mk → (∀ i : Int, 0 ≤ i → i < k → rd Mk 93 i = rd N7 92 i) → X G Y_X12_run d 0 0 65 [vA 67, vI x1, vI x2, vI k] [] Mk (rI (fun v' M2 => v' = E.1.length ∧ INV (q + 1) M2)) := by
      intro m
      induction m with
      | zero =>
        intro k hk Mk sk fk k93
        have e48 : rd Mk 67 48 = E.1.length := by rw [fk.2.2 67 48 (by decide), g8, rd_wr, if_neg (by decide)]; exact W7.1
        have e52 : rd Mk 67 52 = E.1.length := by rw [fk.2.2 67 52 (by decide), g8, rd_wr, if_pos ⟨rfl, rfl⟩]; exact W7.1
        refine B_X12_run_65 (by omega) sk ?_
        rw [e48]
        refine ⟨⟨by omega, by omega⟩, fun _ => ⟨⟨by omega, by omega, by omega⟩, fun N3 g3 _ => ⟨rfl, ?_⟩⟩, fun w => by omega⟩
        subst g3
        have ff : Fr (fun a j => a = 93 ∨ (a = 67 ∧ j = 52)) N7 Mk := by
          have f8 : Fr (fun a j => a = 93 ∨ (a = 67 ∧ j = 52)) N7 N8 := by rw [g8]; exact Fr.rf.wr (Or.inr ⟨rfl, rfl⟩)
          exact f8.tr (fk.mono (fun a j z => Or.inl z))
        have mk : MI r sm s tx E.1 ri si Mk := n7.ran ff (fun a j z => Or.inr z) sk ⟨Or.inr e52, hlen, fun i hi => by
          have w := W7.2 i hi
          rw [k93 _ (by omega) (by omega), k93 _ (by omega) (by omega), k93 _ (by omega) (by omega)]
          exact w⟩
        exact INV.mk' c1 (mk.telA (by omega)) ((((((Fr.rf.wr (K := KMd) ⟨by decide, by decide⟩).tr f5).tr (f6.mono (fun a j z => by unfold KMd; omega))).tr (f7.mono (fun a j z => KWm_md z))).tr (ff.mono (fun a j z => by unfold KMd; omega))).tel ⟨by decide, by decide⟩ (fun _ => ⟨by decide, by decide⟩)) (fun a j z => z)
      | succ m ih =>
        intro k hk Mk sk fk k93
        refine B_X12_run_65 (by omega) sk ⟨⟨by omega, by omega⟩, fun w => by omega, fun _ => ⟨by omega, by omega, fun N9 g9 k9 => ?_⟩⟩
        have g := ih (k + 1) (by omega) N9 k9 (by rw [g9]; exact fk.wr rfl) (fun i i0 i1 => ?_)
        · rw [show ((k + 1 : Nat) : Int) = (k : Int) + 1 by omega] at g
          exact g
        · rw [g9, rd_wr]
          by_cases w : i = k
          · rw [if_pos ⟨rfl, w⟩, w, fk.2.2 92 k (by omega), g8, rd_wr, if_neg (by omega)]
          · rw [if_neg (fun z => w z.2)]; exact k93 i i0 (by omega)
    exact key 15 0 rfl N8 k8 Fr.rf (fun i i0 i1 => by omega)
  have T72 : (0 ≤ x1 ∧ x1 ≤ 3) → (0 ≤ x2 ∧ x2 ≤ 1000000) → ∀ M3 q', CI q' r sm s tx L ri si M3 → q' ≤ q + 1 → Fr (fun a _ => a < 67) M M3 → (x1 = 3 → rd M3 39 8 = 1) → (x1 = 2 → tMk M3 32 0 (-1) (r 30) (r 33)) → X G Y_X11_run d 0 0 72 [vA 0, vI x1, vI x2] [] M3 (rI (fun v M1 => CM G Y_X12_run d [vA 67, vI x1, vI x2] M1 (rI (fun v' M2 => v' = v ∧ INV (q + 1) M2)))) := by
    intro a1 a2 M3 q' c3 hq' f3 h3 ht
    refine B_X11_run_72 (by omega) c3.1.1 (fun M1 e1 s1 => ?_)
    have f1 : Fr (fun a j => a = 59 ∧ j = 3) M3 M1 := by rw [e1]; exact Fr.rf.wr ⟨rfl, rfl⟩
    have P1 : PL r sm M1 := c3.1.frM f1 (fun a j z => by omega) s1
    have e50 : rd M1 5 0 = r 30 := (P1.2.1.1.1.2.2.1 0 (by decide) (by decide)).1
    have e51 : rd M1 5 1 = r 33 := (P1.2.1.1.1.2.2.1 1 (by decide) (by decide)).1
    rw [e50, e51]
    refine T_plays (Or.inl rfl) P1 a1 (fun w => by rw [e1]; exact tMk_w (by decide) (ht w)) (fun w => by rw [f1.2.2 39 8 (by omega)]; exact h3 w) hp (by rw [e1, rd_wr, if_pos ⟨rfl, rfl⟩]) ⟨a2.1, by omega⟩ hE (by omega) (fun M2 f2 P2 W2 _ _ _ => ⟨P2.1, fun M4 e4 s4 => ?_⟩)
    have f12 : Fr (KWd 59) M3 M2 := (f1.mono (fun a j z => by unfold KWd; omega)).tr f2
    have h9 := c3.2.2.1
    have C2 : CI (q + 1) r sm s tx E.1 ri si M2 := c3.ran P2 f12 (fun a j z => by unfold KWd KTd at z; omega) W2 (by rw [f12.2.2 32 9 (by unfold KWd KTd; omega), f12.2.2 44 9 (by unfold KWd KTd; omega)]; omega)
    rw [W2.1]
    subst e4
    have ff : Fr (fun a _ => a < 67) M (accM M2) := (f3.tr (f12.mono (fun a j z => by unfold KWd KTd at z; omega))).acc (by decide)
    exact Y a1 a2 _ C2.acc (hM.fc ff (fun a j z => z) s4)
  have T36 : (0 ≤ x1 ∧ x1 ≤ 3) → (0 ≤ x2 ∧ x2 ≤ 1000000) → ∀ M3 q', CI q' r sm s tx L ri si M3 → q' ≤ q + 1 → Fr (fun a _ => a < 67) M M3 → (x1 = 3 → rd M3 39 8 = 1) → X G Y_X11_run d 0 0 36 [vA 0, vI x1, vI x2] [] M3 (rI (fun v M1 => CM G Y_X12_run d [vA 67, vI x1, vI x2] M1 (rI (fun v' M2 => v' = v ∧ INV (q + 1) M2)))) := by
    intro a1 a2 M3 q' c3 hq' f3 h3
    refine B_X11_run_36 (by omega) c3.1.1 ⟨h1, fun w => T72 a1 a2 M3 q' c3 hq' f3 h3 (fun z => absurd z w), fun w => ?_⟩
    have e50 : rd M3 5 0 = r 30 := (c3.1.2.1.1.1.2.2.1 0 (by decide) (by decide)).1
    have e51 : rd M3 5 1 = r 33 := (c3.1.2.1.1.1.2.2.1 1 (by decide) (by decide)).1
    rw [e50, e51]
    refine T_ahead0 c3.1 hp (by omega) (fun M6 P6 f6 t6 _ => ⟨P6.1, ?_⟩)
    have e9 : ∀ j, rd M6 32 j = rd M3 32 j := fun j => f6.2.2 32 j (by unfold KZ KTd KX; omega)
    have c6 : CI q' r sm s tx L ri si M6 := c3.to P6 f6 (fun a j z => KPl_ok (KZ_Pl (Or.inl rfl) z)) (by rw [e9 9, f6.2.2 44 9 (by unfold KZ KTd KX; omega)]; exact c3.2.2.1)
    exact T72 a1 a2 M6 q' c6 hq' (f3.tr (f6.mono (fun a j z => KPl_67 (KZ_Pl (Or.inl rfl) z)))) (fun z => by omega) (fun _ => t6)
  refine C_X11_run (B_X11_run_0 (by omega) hC.1.1 ⟨h1, h2, fun c M8 e8 _ => ?_, fun c => ⟨fun c2 => ⟨fun c3 => ?_, fun c3 => ?_⟩, fun c2 M10 e10 _ => ?_⟩⟩)
  · subst e8; exact N (by omega)
  · exact T36 (by omega) (by omega) M q hC (by omega) Fr.rf (fun z => absurd z c3)
  · exact qF hC hq (by omega) (fun M6 C6 f6 h8 hF b6 => ⟨C6.1.1, T36 (by omega) (by omega) M6 (q + 1) C6 (by omega) (f6.mono (fun a j z => KPl_67 z)) (fun _ => h8)⟩)
  · subst e10; exact N (by omega)
/-! nights -/
theorem mn5_le {x : Int} : (if x ≤ 5 then x else 5) = mn5 x := by
  unfold mn5
  by_cases a : x < 5
  · rw [if_pos (by omega), if_pos a]
  · rw [if_neg a]
    by_cases b : x ≤ 5
    · rw [if_pos b]; omega
    · rw [if_neg b]
theorem nightsM {M0 : MM} {n sd w : Int} (hV : RS r) (hc : 0 ≤ c ∧ c ≤ 3) (hn : 1 ≤ n ∧ n ≤ 60) (hs : 0 ≤ sd ∧ sd < 1000003) (hw : inR w) (hd : 30 ≤ d)
    (hq : ∀ Mk, MI r sm s tx L ri si Mk → Fr KMd M0 Mk → Q (vI (if w ≠ 0 then (if w ≠ 1 then (ngS r sm (chC r sm c) sd n.toNat).2.2.2.2.2.2.2 else (ngS r sm (chC r sm c) sd n.toNat).2.2.2.2.2.2.1) else (ngS r sm (chC r sm c) sd n.toNat).2.2.2.2.2.1)) Mk) :
    ∀ (m k : Nat), ((k : Int) + m = n) → ∀ Mk, MI r sm s tx L ri si Mk → MCh r sm c Mk → Fr KMd M0 Mk → rd Mk 67 47 = (ngS r sm (chC r sm c) sd k).2.2.1 → (1 ≤ k → rd Mk 67 50 = (ngS r sm (chC r sm c) sd k).2.2.2.1 ∧ rd Mk 67 51 = (ngS r sm (chC r sm c) sd k).2.2.2.2.1) →
      X G Y_X12_nights d 0 0 87 [vA 67, vI n, vI c, vI sd, vI w, vI (ngS r sm (chC r sm c) sd k).1, vI (ngS r sm (chC r sm c) sd k).2.1, vI (ngS r sm (chC r sm c) sd k).2.2.2.2.2.1, vI (ngS r sm (chC r sm c) sd k).2.2.2.2.2.2.1, vI (ngS r sm (chC r sm c) sd k).2.2.2.2.2.2.2, vI k, vU, vU] [] Mk Q := by
  have hch := chC_R (sm := sm) hV (c := c)
  have hfr := hV.fr2
  intro m
  induction m with
  | zero =>
    intro k hk Mk mk mc fk e47 e50
    refine B_X12_nights_87 (by omega) mk.1 ⟨⟨by omega, by omega⟩, ⟨by omega, by omega⟩, fun _ => ⟨hw, ?_⟩, fun z => by omega⟩
    have g := hq Mk mk fk
    rw [show n.toNat = k by omega] at g
    exact g
  | succ m ih =>
    intro k hk Mk mk mc fk e47 e50
    generalize hqk : ngS r sm (chC r sm c) sd k = qk at *
    have hK : ngK qk := by rw [← hqk]; exact ngS_ok (sm := sm) hV hch hs k
    have step : ∀ (b : Int × Int × Int) (M1 : MM), b = ngB r k qk → MI r sm s tx L ri si M1 → MCh r sm c M1 → Fr KMd M0 M1 → rd M1 67 47 = b.2.2 → X G Y_X12_nights d 0 0 166 [vA 67, vI n, vI c, vI sd, vI w, vI b.1, vI b.2.1, vI qk.2.2.2.2.2.1, vI qk.2.2.2.2.2.2.1, vI qk.2.2.2.2.2.2.2, vI k, vU, vU] [] M1 Q := by
      intro b M1 hb m1 mc1 f1 e1
      have hbo := ngB_ok hV hK k
      rw [← hb] at hbo
      generalize hE : ngE r sm (chC r sm c) b = E
      have hE' : evF r sm (chC r sm c) 5 0 (-1) b.1 b.2.1 b.2.2 = E := hE
      have hEo := evF_ok (sm := sm) hV hch 5 0 (-1) b.1 b.2.1 b.2.2 NS0 hbo.1 hbo.2
      rw [hE'] at hEo
      refine B_X12_nights_166 (by omega) m1.1 (T_X12_goThrough m1.1 m1.mok m1.2.1 hc mc1 hbo.1 e1 hbo.2 hE' (by omega) (fun N1 f2 k1 W1 w50 w51 w47 => ⟨k1, fun v2 e2 v3 e3 => ?_⟩))
      have n1 := m1.scr f2 (fun a j z => KWm_sc z) k1
      have mc2 := mc1.fr f2 (fun a j z => by unfold KWm KA at z; omega)
      have fn := f1.tr (f2.mono (fun a j z => KWm_md z))
      rw [w50, w51] at e3
      have hl := hEo.1
      have lp : ∀ u j : Nat, j + u = E.1.length → X G Y_X12_nights d 0 0 202 [vA 67, vI n, vI c, vI sd, vI w, vI b.1, vI b.2.1, vI v2, vI v3, vI (qk.2.2.2.2.2.2.2 + sitN r E.1 j), vI k, vI j, vU] [] N1 Q := by
        intro u
        induction u with
        | zero =>
          intro j hj
          refine B_X12_nights_202 (by omega) k1 ?_
          rw [W1.1]
          refine ⟨⟨by omega, by omega⟩, ⟨by omega, by omega⟩, fun _ => ?_, fun z => by omega⟩
          have e' : ngS r sm (chC r sm c) sd (k + 1) = ngN r qk b E := by rw [ngS, hqk, ← hb, hE]
          have g := ih (k + 1) (by omega) N1 n1 mc2 fn (by rw [e']; exact w47) (fun _ => by rw [e']; exact ⟨w50, w51⟩)
          rw [e', show ((k + 1 : Nat) : Int) = (k : Int) + 1 by omega] at g
          have ej : j = E.1.length := by omega
          rw [e2, e3, ej]
          exact g
        | succ u ihu =>
          intro j hj
          have wj := W1.2 j (by omega)
          have hm : E.1.getD j (0, 0, 0) ∈ E.1 := by
            rw [List.getD_eq_getElem?_getD, List.getElem?_eq_getElem (by omega)]
            exact List.getElem_mem _
          have hb5 := hEo.2.1 _ hm
          refine B_X12_nights_202 (by omega) k1 ?_
          rw [W1.1, wj.1, wj.2.1, wj.2.2, n1.2.1]
          refine ⟨⟨by omega, by omega⟩, ⟨by omega, by omega⟩, fun z => by omega, fun _ => ⟨by omega, by omega, by omega, by omega, by omega, by omega, by omega, by omega, fun v11 e11 => ?_⟩⟩
          have g := ihu (j + 1) (by omega)
          rw [sitN, show ((j + 1 : Nat) : Int) = (j : Int) + 1 by omega, ← Int.add_assoc] at g
          rw [Int.add_zero] at e11
          rw [← e11] at g
          exact g
      have g0 := lp E.1.length 0 (by omega)
      rw [sitN, Int.add_zero] at g0
      exact g0
    refine B_X12_nights_87 (by omega) mk.1 ⟨⟨by omega, by omega⟩, ⟨by omega, by omega⟩, fun z => by omega, fun _ => ⟨fun z => ?_, fun z => ?_⟩⟩
    · have ek : k = 0 := by omega
      exact step (qk.1, qk.2.1, qk.2.2.1) Mk (by unfold ngB; rw [if_pos ek]) mk mc fk e47
    · obtain ⟨e50', e51'⟩ := e50 (by omega)
      rw [mk.2.1]
      obtain ⟨hz1, hs1, hz2⟩ := hK
      refine T_X12_draw mk.1 e47 hs1 ⟨by omega, by omega⟩ (by omega) (fun N13 g13 k13 => ⟨k13, fun v15 e15 => ?_⟩)
      have f13 : Fr (fun a j => a = 67 ∧ j = 47) Mk N13 := by rw [g13]; exact Fr.rf.wr ⟨rfl, rfl⟩
      have n13 := mk.scr f13 (fun a j z => by unfold KSc; omega) k13
      rw [n13.2.1]
      refine T_X12_draw n13.1 (s := drw qk.2.2.1) (by rw [g13, rd_wr, if_pos ⟨rfl, rfl⟩]) ⟨drw_ok.1, drw_ok.2⟩ ⟨by omega, by omega⟩ (by omega) (fun N16 g16 k16 => ⟨k16, fun v18 e18 => ?_⟩)
      have f16 : Fr (fun a j => a = 67 ∧ j = 47) N13 N16 := by rw [g16]; exact Fr.rf.wr ⟨rfl, rfl⟩
      have n16 := n13.scr f16 (fun a j z => by unfold KSc; omega) k16
      rw [e50'] at e15
      rw [f13.2.2 67 51 (by decide), e51'] at e18
      have r1 := Int.emod_nonneg (drw qk.2.2.1) (show r 32 + 1 ≠ 0 by omega)
      have r2 := Int.emod_lt_of_pos (drw qk.2.2.1) (show 0 < r 32 + 1 by omega)
      have r3 := Int.emod_nonneg (drw (drw qk.2.2.1)) (show r 35 + 1 ≠ 0 by omega)
      have r4 := Int.emod_lt_of_pos (drw (drw qk.2.2.1)) (show 0 < r 35 + 1 by omega)
      obtain ⟨⟨y0, y1⟩, y2, y3⟩ := hz2
      refine ⟨⟨by omega, by omega⟩, fun v24 e24 => ⟨⟨by omega, by omega⟩, fun v30 e30 => ?_⟩⟩
      rw [mn5_le] at e24 e30
      have f2 : Fr (fun a j => a = 67 ∧ j = 47) Mk N16 := f13.tr f16
      refine step (v24, v30, drw (drw qk.2.2.1)) N16 ?_ n16 (mc.fr f2 (fun a j z => by omega)) (fk.tr (f2.mono (fun a j z => by unfold KMd; omega))) (by rw [g16, rd_wr, if_pos ⟨rfl, rfl⟩])
      unfold ngB
      rw [if_neg (by omega), e24, e30, e15, e18]
theorem P_nights {x1 x2 x3 x4 : Int} (h1 : inR x1) (h2 : inR x2) (h3 : inR x3) (h4 : inR x4) (hq : 0 ≤ q ∧ q ≤ 1000) (h : INV q M) (hd : 60 ≤ d) : PR G d 0 0 Y_X11_nights Y_X12_nights [vI x1, vI x2, vI x3, vI x4] q M := by
  obtain ⟨r, sm, s, tx, L, ri, si, hC, hM⟩ := h
  unfold PR
  have hV := hM.2.2.1.1
  have N : ¬ ((1 ≤ x1 ∧ x1 ≤ 60) ∧ (0 ≤ x2 ∧ x2 ≤ 3) ∧ (0 ≤ x3 ∧ x3 ≤ 1000000) ∧ (0 ≤ x4 ∧ x4 ≤ 2)) → CM G Y_X12_nights d [vA 67, vI x1, vI x2, vI x3, vI x4] M (rI (fun v' M2 => v' = -1 ∧ INV (q + 1) M2)) := by
    intro hn
    refine CM.of hM.1 ?_
    refine C_X12_nights (B_X12_nights_0 (by omega) hM.1 (fun N1 g1 k1 => ?_))
    subst g1
    exact ⟨h1, fun _ => ⟨rfl, fin_thr hC hM⟩, fun a1 => ⟨h2, fun _ => ⟨rfl, fin_thr hC hM⟩, fun a2 => ⟨h3, fun _ => ⟨rfl, fin_thr hC hM⟩, fun a3 => ⟨h4, fun a4 => absurd ⟨a1, a2, a3, a4⟩ hn, fun _ => ⟨rfl, fin_thr hC hM⟩⟩⟩⟩⟩
  have T54 : (1 ≤ x1 ∧ x1 ≤ 60) → (0 ≤ x2 ∧ x2 ≤ 3) → (0 ≤ x3 ∧ x3 ≤ 1000000) → (0 ≤ x4 ∧ x4 ≤ 2) → ∀ M3 q', CI q' r sm s tx L ri si M3 → q' ≤ q + 1 → Fr (fun a _ => a < 67) M M3 → (x2 = 3 → rd M3 39 8 = 1) → X G Y_X11_nights d 0 0 54 [vA 0, vI x1, vI x2, vI x3, vI x4] [] M3 (rI (fun v M1 => CM G Y_X12_nights d [vA 67, vI x1, vI x2, vI x3, vI x4] M1 (rI (fun v' M2 => v' = v ∧ INV (q + 1) M2)))) := by
    intro a1 a2 a3 a4 M3 q' c3 hq' f3 hx3
    refine B_X11_nights_54 (by omega) c3.1.1 (fun M1 e1 s1 => ?_)
    have f1 : Fr (fun a j => a = 63 ∧ j = 3) M3 M1 := by rw [e1]; exact Fr.rf.wr ⟨rfl, rfl⟩
    have P1 : PL r sm M1 := c3.1.frM f1 (fun a j z => by omega) s1
    refine T_X10_playsNights (Or.inr rfl) P1 a1 a2 (fun w => by rw [f1.2.2 39 8 (by omega)]; exact hx3 w) (by rw [e1, rd_wr, if_pos ⟨rfl, rfl⟩]) ⟨a3.1, by omega⟩ (by omega) (fun M2 f2 P2 w10 w11 w12 => ⟨P2.1, h4, ?_⟩)
    rw [w10, w11, w12]
    have f12 : Fr (KNt 63) M3 M2 := (f1.mono (fun a j z => by unfold KNt KWd; omega)).tr f2
    have h9 := c3.2.2.1
    have C2 : CI (q + 1) r sm s tx L ri si M2 := c3.to P2 f12 (fun a j z => by unfold KNt KZ KWd KTd KX at z; omega) (by rw [f12.2.2 32 9 (by unfold KNt KZ KWd KTd KX; omega), f12.2.2 44 9 (by unfold KNt KZ KWd KTd KX; omega)]; omega)
    have m2 : MI r sm s tx L ri si M2 := hM.fc (f3.tr (f12.mono (fun a j z => by unfold KNt KZ KWd KTd KX at z; omega))) (fun a j z => z) P2.1
    show CM G Y_X12_nights d [vA 67, vI x1, vI x2, vI x3, vI x4] M2 _
    refine CM.of P2.1 ?_
    refine C_X12_nights (B_X12_nights_0 (by omega) P2.1 (fun N1 g1 k1 => ⟨h1, fun w => absurd a1 w, fun _ => ⟨h2, fun w => absurd a2 w, fun _ => ⟨h3, fun w => absurd a3 w, fun _ => ⟨h4, fun _ => ?_, fun w => absurd a4 w⟩⟩⟩⟩))
    subst g1
    refine chM m2.thr a2 (by omega) (fun N6 n6 f6 mc => ⟨n6.1, fun N7 g7 k7 v8 e8 v9 e9 => ?_⟩)
    have f7 : Fr (fun a j => a = 67 ∧ j = 47) N6 N7 := by rw [g7]; exact Fr.rf.wr ⟨rfl, rfl⟩
    have n7 := n6.scr f7 (fun a j z => by unfold KSc; omega) k7
    rw [n7.2.1] at e8 e9
    have g := nightsM (G := G) (d := d) (M0 := M2) (n := x1) (sd := x3) (w := x4) (sm := sm) hV a2 a1 ⟨a3.1, by omega⟩ h4 (by omega) (Q := rI (fun v' M3 => v' = (if x4 ≠ 0 then (if x4 ≠ 1 then (ngS r sm (chC r sm x2) x3 x1.toNat).2.2.2.2.2.2.2 else (ngS r sm (chC r sm x2) x3 x1.toNat).2.2.2.2.2.2.1) else (ngS r sm (chC r sm x2) x3 x1.toNat).2.2.2.2.2.1) ∧ INV (q + 1) M3)) (fun Mk mk fk => ⟨rfl, INV.mk' C2 mk fk (fun a j z => z)⟩) x1.toNat 0 (by omega) N7 n7 (mc.fr f7 (fun a j z => by omega)) (((Fr.rf.wr (K := KMd) ⟨by decide, by decide⟩).tr f6).tr (f7.mono (fun a j z => by unfold KMd; omega))) (by rw [g7, rd_wr, if_pos ⟨rfl, rfl⟩]; rfl) (fun w => by omega)
    rw [e8, e9]
    exact g
  refine C_X11_nights (B_X11_nights_0 (by omega) hC.1.1 ⟨h1, fun c => N (by omega), fun c => ⟨h2, h3, fun c2 => N (by omega), fun c2 => ⟨fun c3 => N (by omega), fun c3 => ⟨h4, fun c4 => N (by omega), fun c4 => ⟨fun c5 => ⟨fun c6 => ?_, fun c6 => ?_⟩, fun c5 => N (by omega)⟩⟩⟩⟩⟩)
  · exact T54 (by omega) (by omega) (by omega) (by omega) M q hC (by omega) Fr.rf (fun z => absurd z c6)
  · exact qF hC hq (by omega) (fun M6 C6 f6 h8 hF b6 => ⟨C6.1.1, T54 (by omega) (by omega) (by omega) (by omega) M6 (q + 1) C6 (by omega) (f6.mono (fun a j z => KPl_67 z)) (fun _ => h8)⟩)
end RU
