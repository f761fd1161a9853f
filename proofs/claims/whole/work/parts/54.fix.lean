/-! ===== all rows, the first ones first ===== -/
def undF (can : Int) (sub : Int → List (List Int)) : Nat → Int → List (List Int)
  | 0, _ => []
  | m + 1, s => (if bt can s = 1 then sub s else []) ++ undF can sub m (s + 1)
def rws (r : Int → Int) : Nat → Int → List Int → List (List Int)
  | 0, _, t => [t]
  | n + 1, p, t => if canB r p = 0 then [t] else undF (canB r p) (fun s => rws r n (sb p s) (t ++ [s])) 5 0
theorem undF_len {can : Int} {sub : Int → List (List Int)} {B : Nat} (h : ∀ s : Int, (sub s).length ≤ B) : ∀ (m : Nat) (s : Int), (undF can sub m s).length ≤ m * B
  | 0, _ => by simp [undF]
  | m + 1, s => by
    have ih := undF_len (can := can) h m (s + 1)
    have hs := h s
    simp only [undF, List.length_append]
    rw [Nat.succ_mul]
    split
    · omega
    · simp; omega
theorem rws_len {r : Int → Int} : ∀ (n : Nat) (p : Int) (t : List Int), (rws r n p t).length ≤ 5 ^ n
  | 0, p, t => by simp [rws]
  | n + 1, p, t => by
    simp only [rws]
    split
    · exact Nat.succ_le_of_lt (Nat.pow_pos (by decide))
    · have := undF_len (can := canB r p) (sub := fun s => rws r n (sb p s) (t ++ [s])) (B := 5 ^ n) (fun s => rws_len n (sb p s) (t ++ [s])) 5 0
      rw [Nat.pow_succ]; omega
theorem rowf_app {t : List Int} {s i : Int} (h0 : 0 ≤ i) : (i < t.length → rowf (t ++ [s]) i = rowf t i) ∧ (i = t.length → rowf (t ++ [s]) i = s) := by
  unfold rowf
  refine ⟨fun h => ?_, fun h => ?_⟩
  · rw [List.getD_eq_getElem?_getD, List.getD_eq_getElem?_getD, List.getElem?_append_left (by omega)]
  · rw [h, show ((t.length : Int)).toNat = t.length by omega, List.getD_eq_getElem?_getD, List.getElem?_append_right (Nat.le_refl _)]
    simp
/-- a row that can be played so far -/
def ndOk (r : Int → Int) (t : List Int) : Prop := RowOk (rowf t) t.length ∧ t.length ≤ 5 ∧ plyd r (rowf t) t.length t.length
def npl (t : List Int) : Int := pfx (rowf t) t.length
theorem npl_app {t : List Int} {s : Int} : npl (t ++ [s]) = sb (npl t) s := by
  unfold npl
  rw [List.length_append]
  show sb (pfx (rowf (t ++ [s])) t.length) (rowf (t ++ [s]) (t.length : Int)) = _
  rw [(rowf_app (t := t) (s := s) (i := (t.length : Int)) (by omega)).2 rfl, pfx_congr (g := rowf t) (fun j j0 j1 => (rowf_app j0).1 j1)]
theorem ndOk_app {r : Int → Int} (hV : RS r) {t : List Int} {s : Int} (h : ndOk r t) (hs : 0 ≤ s ∧ s < 5) (hb : bt (canB r (npl t)) s = 1) : ndOk r (t ++ [s]) := by
  obtain ⟨h1, h2, h3⟩ := h
  have hp := pfx_ok h1 t.length (Int.le_refl _)
  have hns := canB_s hV ⟨hp.1, hp.2.1⟩ hs hb
  have hlen : (t ++ [s]).length = t.length + 1 := by simp
  have hlt : t.length < 5 := by
    have := pop5 ⟨hp.1, hp.2.1⟩ hs hns.2
    rw [hp.2.2.1] at this; omega
  have ra : ∀ i : Int, 0 ≤ i → i < t.length → rowf (t ++ [s]) i = rowf t i := fun i i0 i1 => (rowf_app i0).1 i1
  have rb : rowf (t ++ [s]) t.length = s := (rowf_app (by omega)).2 rfl
  refine ⟨⟨fun i i0 i1 => ?_, fun i j i0 ij j1 => ?_⟩, by omega, ⟨Int.le_refl _, fun j hj => ?_, fun w => by omega⟩⟩
  · by_cases q : i = t.length
    · rw [q, rb]; exact hs
    · rw [ra i i0 (by omega)]; exact h1.1 i i0 (by omega)
  · by_cases q : j = t.length
    · rw [q, rb, ra i i0 (by omega)]
      intro e
      have : bt (npl t) s = 1 := (hp.2.2.2 s hs.1 hs.2).mpr ⟨i, i0, by omega, e⟩
      exact absurd (this.symm.trans hns.2) (by decide)
    · rw [ra i i0 (by omega), ra j (by omega) (by omega)]
      exact h1.2 i j i0 ij (by omega)
  · have ep : pfx (rowf (t ++ [s])) j = pfx (rowf t) j := pfx_congr (fun i i0 i1 => ra i i0 (by omega))
    rw [ep]
    by_cases q : j = t.length
    · rw [q, rb]; exact hb
    · rw [ra j (by omega) (by omega)]; exact h3.2.1 j (by omega)
theorem canB_full {r : Int → Int} (hV : RS r) {p : Int} (hp : 0 ≤ p ∧ p < 32) (h : pop p = 5) : canB r p = 0 := by
  have hc := canB_ok hV p
  have z : ∀ s : Int, 0 ≤ s → s < 5 → bt (canB r p) s = bt 0 s := by
    intro s s0 s1
    rw [bt_0 ⟨s0, s1⟩]
    rcases bt01 hc.1 hc.2.1 s0 s1 with q | q
    · exact q
    · have := canB_s hV hp ⟨s0, s1⟩ q
      have := pop5 hp ⟨s0, s1⟩ this.2
      omega
  exact set_ext hc.1 hc.2.1 (by decide) (by decide) ⟨z 0 (by decide) (by decide), z 1 (by decide) (by decide), z 2 (by decide) (by decide), z 3 (by decide) (by decide), z 4 (by decide) (by decide)⟩
/-- all rows of a house, and the one of FIXED -/
def allR (r : Int → Int) : List (List Int) := rws r 5 0 []
def fixR (r : Int → Int) (sm : Int → LSm) : Option (List Int) := (allR r).foldl (stpR (wR r sm)) none
def KG (a j : Int) : Prop := KF a j ∨ a = 88 ∨ (a = 67 ∧ j = 41)
section FF
variable {G : GG} {d : Nat} {M : MM} {Q : PV → MM → Prop} {sm : Int → LSm}
theorem T_X12_findFixed (hS : Sh M) (hM : MOK M sm) (h39 : rd M 67 39 = -1) (hd : 11 ≤ d)
    (h : ∀ M', Fr KG M M' → Sh M' → FA M' (wR (rd M 69) sm) (fixR (rd M 69) sm) (allR (rd M 69)).length → Q vU M') : C G Y_X12_findFixed d 0 0 [vA 67] M Q := by
  generalize hr : rd M 69 = r at *
  generalize hw : wR r sm = w at *
  have hV : RS r := by rw [← hr]; exact hM.1
  let I : List Int → Option (List Int) → Int → MM → Prop := fun t acc c Mk => Fr KG M Mk ∧ Sh Mk ∧ FA Mk w acc c ∧ rd Mk 67 41 = t.length ∧ ∀ i : Int, 0 ≤ i → i < t.length → rd Mk 88 i = rowf t i
  have e69 : ∀ Mk, Fr KG M Mk → rd Mk 69 = r := fun Mk fk => by rw [← hr]; exact funext fun j => fk.2.2 _ _ (by unfold KG KF KR KE KA; omega)
  have hMk : ∀ Mk, Fr KG M Mk → MOK Mk sm := fun Mk fk => hM.fr fk (fun j q => by unfold KG KF KR KE KA at q; omega)
  -- a row that can't be gone on with is weighed
  have leaf : ∀ t acc c Mk, ndOk r t → canB r (npl t) = 0 → I t acc c Mk → c < 100000 → (∀ M', I t (stpR w acc t) (c + 1) M' → ∀ x2 x4, X G Y_X12_findFixed d 0 0 70 [vA 67, vI (npl t), vI x2, vI 1, vI x4, vI 5] [] M' Q) → X G Y_X12_findFixed d 0 0 21 [vA 67, vI (npl t), vI 0, vI 1, vU, vU] [] Mk Q := by
    intro t acc c Mk hnd hc0 hI hc hex
    obtain ⟨fk, hSk, hA, hl, ht⟩ := hI
    have hp := pfx_ok hnd.1 t.length (Int.le_refl _)
    refine B_X12_findFixed_21 (by omega) hSk ⟨⟨by decide, by decide⟩, fun q => absurd q (by decide), fun _ => ⟨by rw [e69 Mk fk]; exact hV, ⟨hp.1, hp.2.1⟩, fun v4 e4 => ?_⟩⟩
    rw [e69 Mk fk, hc0] at e4
    subst e4
    have k35 : ∀ m s : Nat, s + m = 5 → X G Y_X12_findFixed d 0 0 35 [vA 67, vI (npl t), vI 0, vI 1, vI 0, vI s] [] Mk Q := by
      intro m
      induction m with
      | zero =>
        intro s hs
        have es : s = 5 := by omega
        subst es
        refine B_X12_findFixed_35 (by omega) hSk ⟨⟨by decide, by decide⟩, fun _ => ⟨⟨by decide, by decide⟩, ⟨by decide, by decide⟩, fun q => by omega, fun _ => ?_⟩, fun q => absurd (Or.inl (by decide)) q⟩
        refine T_X12_weighRow (t := t) (acc := acc) (c := c) hSk (hMk Mk fk) (by rw [fk.2.2 _ _ (by unfold KG KF KR KE KA; omega)]; exact h39) hl ht hnd.1 hnd.2.1 (by rw [e69 Mk fk]; exact hnd.2.2) (by rw [e69 Mk fk, hw]; exact hA) hc (by omega) (fun M2 f2 hS2 hA2 => ⟨hS2, ?_⟩)
        rw [e69 Mk fk, hw] at hA2
        exact hex M2 ⟨fk.tr (f2.mono (fun a j q => Or.inl q)), hS2, hA2, by rw [f2.2.2 _ _ (by unfold KF KR KE KA; omega)]; exact hl, fun i i0 i1 => by rw [f2.2.2 _ _ (by unfold KF KR KE KA; omega)]; exact ht i i0 i1⟩ 0 0
      | succ m ih =>
        intro s hs
        refine B_X12_findFixed_35 (by omega) hSk ⟨⟨by omega, by omega⟩, fun q => ?_, fun _ => ih (s + 1) (by omega)⟩
        exfalso
        rcases q with q | q
        · omega
        · have := bt_0 (s := (s : Int)) ⟨by omega, by omega⟩
          have q : bt 0 s = 1 := q
          omega
    exact k35 5 0 rfl
  have visit : ∀ n : Nat, ∀ t acc c Mk, ndOk r t → t.length + n = 5 → I t acc c Mk → 0 ≤ c → c + (5 ^ n : Nat) ≤ 5000 → (∀ M', I t ((rws r n (npl t) t).foldl (stpR w) acc) (c + (rws r n (npl t) t).length) M' → ∀ x2 x4, X G Y_X12_findFixed d 0 0 70 [vA 67, vI (npl t), vI x2, vI 1, vI x4, vI 5] [] M' Q) → X G Y_X12_findFixed d 0 0 21 [vA 67, vI (npl t), vI 0, vI 1, vU, vU] [] Mk Q := by
    intro n
    induction n with
    | zero =>
      intro t acc c Mk hnd hn hI c0 hc hex
      have hp := pfx_ok hnd.1 t.length (Int.le_refl _)
      have h0 : canB r (npl t) = 0 := canB_full hV ⟨hp.1, hp.2.1⟩ (by show pop (pfx (rowf t) t.length) = 5; rw [hp.2.2.1]; omega)
      exact leaf t acc c Mk hnd h0 hI (by omega) (fun M' hI' => hex M' (by simpa [rws] using hI'))
    | succ n ihn =>
      intro t acc c Mk hnd hn hI c0 hc hex
      have hp := pfx_ok hnd.1 t.length (Int.le_refl _)
      have hp2 : 0 ≤ npl t ∧ npl t < 32 := ⟨hp.1, hp.2.1⟩
      have h5n : (5 ^ (n + 1) : Nat) = 5 ^ n * 5 := Nat.pow_succ ..
      by_cases h0 : canB r (npl t) = 0
      · refine leaf t acc c Mk hnd h0 hI (by omega) (fun M' hI' => hex M' ?_)
        simpa [rws, h0] using hI'
      · have hcR := canB_ok hV (npl t)
        simp only [rws] at hex
        rw [if_neg h0] at hex
        generalize hsub : (fun s => rws r n (sb (npl t) s) (t ++ [s])) = sub at hex
        have hsl : ∀ s : Int, (sub s).length ≤ 5 ^ n := fun s => by rw [← hsub]; exact rws_len n _ _
        -- the scenes from s on
        have sweep : ∀ m s : Nat, s + m = 5 → ∀ acc' c' Mj (x2 : Int), I t acc' c' Mj → 0 ≤ c' → c' + (m * 5 ^ n : Nat) ≤ 5000 → inR x2 → (∀ M', I t ((undF (canB r (npl t)) sub m s).foldl (stpR w) acc') (c' + (undF (canB r (npl t)) sub m s).length) M' → ∀ x2 x4, X G Y_X12_findFixed d 0 0 70 [vA 67, vI (npl t), vI x2, vI 1, vI x4, vI 5] [] M' Q) →
            X G Y_X12_findFixed d 0 0 35 [vA 67, vI (npl t), vI x2, vI 1, vI (canB r (npl t)), vI s] [] Mj Q := by
          intro m
          induction m with
          | zero =>
            intro s hs acc' c' Mj x2 hIj c0' hc' hx2 hex'
            have es : s = 5 := by omega
            subst es
            refine B_X12_findFixed_35 (by omega) hIj.2.1 ⟨⟨by decide, by decide⟩, fun _ => ⟨⟨by omega, by omega⟩, hx2, fun _ => ?_, fun q => absurd (Or.inl h0) q⟩, fun q => absurd (Or.inl (by decide)) q⟩
            exact hex' Mj (by simpa [undF] using hIj) x2 _
          | succ m ihm =>
            intro s hs acc' c' Mj x2 hIj c0' hc' hx2 hex'
            have hmul : ((m + 1) * 5 ^ n : Nat) = m * 5 ^ n + 5 ^ n := Nat.succ_mul ..
            refine B_X12_findFixed_35 (by omega) hIj.2.1 ⟨⟨by omega, by omega⟩, fun q => ⟨⟨by omega, by omega⟩, hx2, fun _ => ?_, fun q2 => absurd (Or.inl h0) q2⟩, fun q => ?_⟩
            · have hb : bt (canB r (npl t)) s = 1 := by
                rcases q with q | q
                · omega
                · exact q
              have hs5 : 0 ≤ (s : Int) ∧ (s : Int) < 5 := ⟨by omega, by omega⟩
              have hns := canB_s hV hp2 hs5 hb
              have hnd2 := ndOk_app hV hnd hs5 hb
              have hlen : (t ++ [(s : Int)]).length = t.length + 1 := by simp
              simp only [undF] at hex'
              rw [if_pos hb, List.foldl_append, List.length_append] at hex'
              obtain ⟨fj, hSj, hAj, hlj, htj⟩ := hIj
              refine B_X12_findFixed_70 (by omega) hSj ⟨⟨by omega, by omega⟩, fun q2 => by omega, fun _ => ?_⟩
              rw [hlj]
              refine ⟨by omega, by omega, fun M2 e2 hS2 M3 e3 hS3 v12 e12 => ?_⟩
              have e12' : v12 = npl (t ++ [(s : Int)]) := by rw [npl_app]; exact e12
              rw [e12']
              have x3 : ∀ a j : Int, ¬ (a = 88 ∧ j = t.length) → ¬ (a = 67 ∧ j = 41) → rd M3 a j = rd Mj a j := fun a j q1 q2 => by rw [e3, rd_wr, if_neg q2, e2, rd_wr, if_neg q1]
              have f3 : Fr KG M M3 := by rw [e3, e2]; exact (fj.wr (Or.inr (Or.inl rfl))).wr (Or.inr (Or.inr ⟨rfl, rfl⟩))
              have hA3 : FA M3 w acc' c' := by
                unfold FA at hAj ⊢
                have y85 : rd M3 85 = rd Mj 85 := funext fun j => x3 _ _ (by omega) (by omega)
                rw [x3 67 44 (by omega) (by omega), x3 67 43 (by omega) (by omega), y85]
                refine ⟨hAj.1, hAj.2.1, ?_⟩
                cases acc' with
                | none => exact hAj.2.2
                | some b =>
                  dsimp only
                  have := hAj.2.2
                  dsimp only at this
                  exact ⟨this.1, this.2.1, fun i i0 i1 => by rw [x3 _ _ (by omega) (by omega)]; exact this.2.2.1 i i0 i1, this.2.2.2⟩
              have hl3 : rd M3 67 41 = (t ++ [(s : Int)]).length := by
                rw [e3, rd_wr, if_pos ⟨rfl, rfl⟩, e2, rd_wr, if_neg (by omega), hlj, hlen]; omega
              have ht3 : ∀ i : Int, 0 ≤ i → i < (t ++ [(s : Int)]).length → rd M3 88 i = rowf (t ++ [(s : Int)]) i := by
                intro i i0 i1
                rw [hlen] at i1
                by_cases q2 : i = t.length
                · rw [(rowf_app i0).2 q2, q2, e3, rd_wr, if_neg (by omega), e2, rd_wr, if_pos ⟨rfl, rfl⟩]
                · rw [(rowf_app i0).1 (by omega), x3 _ _ (by omega) (by omega)]; exact htj i i0 (by omega)
              refine ihn (t ++ [(s : Int)]) acc' c' M3 hnd2 (by omega) ⟨f3, hS3, hA3, hl3, ht3⟩ c0' (by omega) (fun M4 hI4 y2 y4 => ?_)
              -- one scene back
              rw [npl_app] at hI4
              have esub : rws r n (sb (npl t) s) (t ++ [(s : Int)]) = sub s := by rw [← hsub]
              rw [esub] at hI4
              obtain ⟨f4, hS4, hA4, hl4, ht4⟩ := hI4
              rw [hlen] at hl4 ht4
              rw [npl_app]
              refine B_X12_findFixed_70 (by omega) hS4 ⟨⟨by decide, by decide⟩, fun _ => ?_, fun q2 => absurd q2 (by decide)⟩
              rw [hl4]
              refine ⟨⟨by omega, by omega⟩, fun q2 => by omega, fun _ M5 e5 hS5 => ?_⟩
              have e41 : rd M5 67 41 = t.length := by rw [e5, rd_wr, if_pos ⟨rfl, rfl⟩]; omega
              have x5 : ∀ a j : Int, ¬ (a = 67 ∧ j = 41) → rd M5 a j = rd M4 a j := fun a j q2 => by rw [e5, rd_wr, if_neg q2]
              have e88 : rd M5 88 (t.length : Int) = s := by rw [x5 _ _ (by omega), ht4 t.length (by omega) (by omega), (rowf_app (by omega)).2 rfl]
              rw [e41, e88]
              refine ⟨by omega, by omega, fun v6 e6 v7 e7 => ?_⟩
              have e6' : v6 = npl t := by rw [e6]; exact sb_off hp2 hs5 hns.2
              rw [e6', e7]
              have f5 : Fr KG M M5 := by rw [e5]; exact f4.wr (Or.inr (Or.inr ⟨rfl, rfl⟩))
              refine B_X12_findFixed_21 (by omega) hS5 ⟨⟨by decide, by decide⟩, fun q2 => absurd q2 (by decide), fun _ => ⟨by rw [e69 M5 f5]; exact hV, hp2, fun v4 e4 => ?_⟩⟩
              rw [e69 M5 f5] at e4
              rw [e4]
              have hA5 : FA M5 w ((sub s).foldl (stpR w) acc') (c' + (sub s).length) := by
                unfold FA at hA4 ⊢
                have y85 : rd M5 85 = rd M4 85 := funext fun j => x5 _ _ (by omega)
                rw [x5 67 44 (by omega), x5 67 43 (by omega), y85]
                refine ⟨hA4.1, hA4.2.1, ?_⟩
                cases hcs : (sub s).foldl (stpR w) acc' with
                | none => have := hA4.2.2; rw [hcs] at this; exact this
                | some b =>
                  have := hA4.2.2
                  rw [hcs] at this
                  dsimp only at this ⊢
                  exact ⟨this.1, this.2.1, fun i i0 i1 => by rw [x5 _ _ (by omega)]; exact this.2.2.1 i i0 i1, this.2.2.2⟩
              refine ihm (s + 1) (by omega) _ _ M5 ((s : Int) + 1) ⟨f5, hS5, hA5, e41, fun i i0 i1 => by rw [x5 _ _ (by omega), ht4 i i0 (by omega), (rowf_app i0).1 i1]⟩ (by omega) (by have := hsl s; omega) ⟨by omega, by omega⟩ (fun M' hI' => hex' M' ?_)
              rw [show c' + (((sub s).length + (undF (canB r (npl t)) sub m ((s : Int) + 1)).length : Nat) : Int) = c' + ((sub s).length : Int) + ((undF (canB r (npl t)) sub m ((s : Int) + 1)).length : Int) by omega]
              exact hI'
            · have hnb : ¬ bt (canB r (npl t)) s = 1 := fun w => q (Or.inr w)
              simp only [undF] at hex'
              rw [if_neg hnb, List.nil_append] at hex'
              exact ihm (s + 1) (by omega) acc' c' Mj x2 hIj c0' (by omega) hx2 hex'
        refine B_X12_findFixed_21 (by omega) hI.2.1 ⟨⟨by decide, by decide⟩, fun q => absurd q (by decide), fun _ => ⟨by rw [e69 Mk hI.1]; exact hV, hp2, fun v4 e4 => ?_⟩⟩
        rw [e69 Mk hI.1] at e4
        rw [e4]
        exact sweep 5 0 rfl acc c Mk 0 hI c0 (by omega) ⟨by decide, by decide⟩ hex
  refine C_X12_findFixed (B_X12_findFixed_0 (by omega) hS fun M1 e1 hS1 M2 e2 hS2 M3 e3 hS3 => ?_)
  have f3 : Fr KG M M3 := by
    rw [e3, e2, e1]
    exact (((Fr.rf (K := KG)).wr (Or.inl (Or.inr (Or.inr (Or.inr ⟨rfl, Or.inr rfl⟩))))).wr (Or.inr (Or.inr ⟨rfl, rfl⟩))).wr (Or.inl (Or.inr (Or.inr (Or.inr ⟨rfl, Or.inl rfl⟩))))
  have hnd0 : ndOk r [] := ⟨⟨fun i i0 i1 => by simp at i1; omega, fun i j i0 ij j1 => by simp at j1; omega⟩, by simp, ⟨by simp, fun j hj => by simp at hj, fun w => by simp at w⟩⟩
  have h44 : rd M3 67 44 = 0 := by rw [e3, rd_wr, if_neg (by omega), e2, rd_wr, if_neg (by omega), e1, rd_wr, if_pos ⟨rfl, rfl⟩]
  have h41 : rd M3 67 41 = 0 := by rw [e3, rd_wr, if_neg (by omega), e2, rd_wr, if_pos ⟨rfl, rfl⟩]
  refine visit 5 [] none 0 M3 hnd0 (by simp) ⟨f3, hS3, ⟨h44, by decide, rfl⟩, by rw [h41]; rfl, fun i i0 i1 => by simp at i1; omega⟩ (by decide) (by decide) (fun M' hI' x2 x4 => ?_)
  obtain ⟨f', hS', hA', hl', ht'⟩ := hI'
  have hl0 : rd M' 67 41 = 0 := by rw [hl']; rfl
  refine B_X12_findFixed_70 (by omega) hS' ⟨⟨by decide, by decide⟩, fun _ => ?_, fun q => absurd q (by decide)⟩
  rw [hl0]
  refine ⟨⟨by decide, by decide⟩, fun _ => ?_, fun q => absurd q (by decide)⟩
  refine B_X12_findFixed_21 (by omega) hS' ⟨⟨by decide, by decide⟩, fun _ => ?_, fun q => absurd rfl q⟩
  refine h M' f' hS' ?_
  rw [Int.zero_add] at hA'
  unfold fixR
  rw [hw]
  exact hA'
end FF
