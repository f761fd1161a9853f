/-! ===== the choosers' values at the start ===== -/
theorem canB_bit {r : Int → Int} (hV : RS r) {p : Int} (h : canB r p ≠ 0) : ∃ s : Nat, s < 5 ∧ bt (canB r p) s = 1 := by
  have hc := canB_ok hV p
  have b := fun (s : Int) (s0 : 0 ≤ s) (s1 : s < 5) => bt01 hc.1 hc.2.1 s0 s1
  by_cases q0 : bt (canB r p) 0 = 1
  · exact ⟨0, by decide, q0⟩
  by_cases q1 : bt (canB r p) 1 = 1
  · exact ⟨1, by decide, q1⟩
  by_cases q2 : bt (canB r p) 2 = 1
  · exact ⟨2, by decide, q2⟩
  by_cases q3 : bt (canB r p) 3 = 1
  · exact ⟨3, by decide, q3⟩
  by_cases q4 : bt (canB r p) 4 = 1
  · exact ⟨4, by decide, q4⟩
  exfalso
  apply h
  have z : ∀ s : Int, (hs : 0 ≤ s ∧ s < 5) → ¬ bt (canB r p) s = 1 → bt (canB r p) s = bt 0 s := fun s hs q => by
    rw [bt_0 hs]
    rcases b s hs.1 hs.2 with w | w
    · exact w
    · exact absurd w q
  exact set_ext hc.1 hc.2.1 (by decide) (by decide) ⟨z 0 (by decide) q0, z 1 (by decide) q1, z 2 (by decide) q2, z 3 (by decide) q3, z 4 (by decide) q4⟩
theorem undF_mem {can : Int} {sub : Int → List (List Int)} {x : List Int} : ∀ (m : Nat) (s : Int), x ∈ undF can sub m s ↔ ∃ i : Int, s ≤ i ∧ i < s + m ∧ bt can i = 1 ∧ x ∈ sub i
  | 0, s => by simp [undF]; intro i h1 h2; omega
  | m + 1, s => by
    simp only [undF, List.mem_append]
    rw [undF_mem m (s + 1)]
    constructor
    · rintro (h | ⟨i, h1, h2, h3, h4⟩)
      · by_cases q : bt can s = 1
        · rw [if_pos q] at h; exact ⟨s, by omega, by omega, q, h⟩
        · rw [if_neg q] at h; cases h
      · exact ⟨i, by omega, by omega, h3, h4⟩
    · rintro ⟨i, h1, h2, h3, h4⟩
      by_cases q : i = s
      · subst q; rw [if_pos h3]; exact Or.inl h4
      · exact Or.inr ⟨i, by omega, by omega, h3, h4⟩
theorem rws_ok {r : Int → Int} (hV : RS r) : ∀ (n : Nat) (t : List Int), ndOk r t → t.length + n = 5 → (rws r n (npl t) t ≠ []) ∧ ∀ x ∈ rws r n (npl t) t, ndOk r x ∧ canB r (npl x) = 0
  | 0, t, ht, hn => by
    have hp := pfx_ok ht.1 t.length (Int.le_refl _)
    have h0 : canB r (npl t) = 0 := canB_full hV ⟨hp.1, hp.2.1⟩ (by show pop (pfx (rowf t) t.length) = 5; rw [hp.2.2.1]; omega)
    refine ⟨by simp [rws], fun x hx => ?_⟩
    simp [rws] at hx
    subst hx; exact ⟨ht, h0⟩
  | n + 1, t, ht, hn => by
    simp only [rws]
    by_cases h0 : canB r (npl t) = 0
    · rw [if_pos h0]
      refine ⟨by simp, fun x hx => ?_⟩
      simp at hx
      subst hx; exact ⟨ht, h0⟩
    · rw [if_neg h0]
      have sub : ∀ s : Int, 0 ≤ s → s < 5 → bt (canB r (npl t)) s = 1 → (rws r n (sb (npl t) s) (t ++ [s]) ≠ []) ∧ ∀ x ∈ rws r n (sb (npl t) s) (t ++ [s]), ndOk r x ∧ canB r (npl x) = 0 := fun s s0 s1 hb => by
        rw [← npl_app]
        exact rws_ok hV n (t ++ [s]) (ndOk_app hV ht ⟨s0, s1⟩ hb) (by simp; omega)
      refine ⟨?_, fun x hx => ?_⟩
      · obtain ⟨s, s1, hb⟩ := canB_bit hV h0
        obtain ⟨hne, -⟩ := sub s (by omega) (by omega) hb
        obtain ⟨x, hx⟩ := List.exists_mem_of_ne_nil _ hne
        exact List.ne_nil_of_mem ((undF_mem (x := x) 5 0).mpr ⟨s, by omega, by omega, hb, hx⟩)
      · obtain ⟨i, i0, i1, hb, hx⟩ := (undF_mem 5 0).mp hx
        exact (sub i i0 (by omega) hb).2 x hx
theorem foldR_mem {w : List Int → Int} : ∀ (xs : List (List Int)) (acc : Option (List Int)), (acc ≠ none ∨ xs ≠ []) → ∃ b, xs.foldl (stpR w) acc = some b ∧ (b ∈ xs ∨ acc = some b)
  | [], acc, h => by
    cases acc with
    | none => exact absurd rfl (h.resolve_right (by simp))
    | some b => exact ⟨b, rfl, Or.inr rfl⟩
  | x :: xs, acc, h => by
    have hs : stpR w acc x = some x ∨ (∃ b, acc = some b ∧ stpR w acc x = some b) := by
      cases acc with
      | none => exact Or.inl rfl
      | some b =>
        simp only [stpR]
        split
        · exact Or.inl rfl
        · exact Or.inr ⟨b, rfl, rfl⟩
    rw [List.foldl_cons]
    obtain ⟨b, e, hb⟩ := foldR_mem xs (stpR w acc x) (Or.inl (by rcases hs with q | ⟨b, -, q⟩ <;> rw [q] <;> simp))
    refine ⟨b, e, ?_⟩
    rcases hb with hb | hb
    · exact Or.inl (List.mem_cons_of_mem _ hb)
    · rcases hs with q | ⟨b', q1, q2⟩
      · rw [q] at hb; cases hb; exact Or.inl List.mem_cons_self
      · rw [q2] at hb; cases hb; exact Or.inr q1
/-- FIXED's row -/
def fixL (r : Int → Int) (sm : Int → LSm) : List Int := (fixR r sm).getD []
theorem nd0 (r : Int → Int) : ndOk r [] := ⟨⟨fun i i0 i1 => by simp at i1; omega, fun i j i0 ij j1 => by simp at j1; omega⟩, by simp, ⟨by simp, fun j hj => by simp at hj, fun w => by simp at w⟩⟩
theorem fixL_ok {r : Int → Int} (sm : Int → LSm) (hV : RS r) : fixR r sm = some (fixL r sm) ∧ ndOk r (fixL r sm) ∧ fixL r sm ∈ allR r := by
  have h := rws_ok hV 5 [] (nd0 r) (by simp)
  have hn : npl [] = 0 := rfl
  rw [hn] at h
  obtain ⟨b, e, hb⟩ := foldR_mem (w := wR r sm) (allR r) none (Or.inr h.1)
  have hm : b ∈ allR r := by
    rcases hb with q | q
    · exact q
    · cases q
  have e2 : fixR r sm = some b := e
  unfold fixL
  rw [e2]
  exact ⟨rfl, (h.2 b hm).1, hm⟩
def bkf (r : Int → Int) : Int → Int := fun i => r (45 + i)
theorem bk_ok {r : Int → Int} (hV : RS r) : RowOk (bkf r) (r 3) ∧ 0 ≤ r 3 ∧ r 3 ≤ 5 := by
  have h0 := hV.2.1
  obtain ⟨_, _, _, _, _, _, _, _, _, _, _, _, _, _, h3, h3', hb, hb2, _⟩ := hV
  exact ⟨⟨fun i i0 i1 => by have := hb i i0 i1; unfold bkf; omega, fun i j i0 ij j1 => hb2 i j i0 ij j1⟩, h3, h3'⟩
/-- the values at the start: by BOOK, MOST, AHEAD, FIXED -/
def aheadC (r : Int → Int) (sm : Int → LSm) (p l z o : Int) : Int := (VV r sm 8 (cBs r) p l z o).2
def rtV (r : Int → Int) (sm : Int → LSm) (ch g z o : Int) : Int :=
  if ch = 0 then rowV r sm g (bkf r) (r 3) z o
  else if ch = 1 then (VV r sm g (cF (mst r sm) r) 0 (-1) z o).1
  else if ch = 2 then (VV r sm g (cF (aheadC r sm) r) 0 (-1) z o).1
  else rowV r sm g (rowf (fixL r sm)) (fixL r sm).length z o
/-- what the model's choices are, chooser by chooser -/
def chOk (r : Int → Int) (sm : Int → LSm) (ch : Int) (CH : Int → Int → Int → Int → Int) : Prop :=
  (∀ p l z o : Int, VS (r 0) p l → 0 ≤ z → z < 6 → 0 ≤ o → o < 6 → -1 ≤ CH p l z o ∧ CH p l z o < 5 ∧ (CH p l z o ≠ -1 → 0 ≤ CH p l z o ∧ CH p l z o < r 0 ∧ bt p (CH p l z o) = 0)) ∧
  (∀ g z o : Int, (VV r sm g (cF CH r) 0 (-1) z o).1 = rtV r sm ch g z o) ∧ (ch = 1 → CH = mst r sm) ∧ (ch = 2 → CH = aheadC r sm)
section RT
variable {G : GG} {d : Nat} {M : MM} {Q : PV → MM → Prop} {sm : Int → LSm}
theorem VS_rng {n p l : Int} (h : VS n p l) (hn : 0 ≤ n ∧ n ≤ 5) : 0 ≤ p ∧ p < 32 ∧ -1 ≤ l ∧ l < 5 := by
  have := shl_ok hn.1 hn.2
  obtain ⟨h1, h2, h3, h4, _⟩ := h
  omega
theorem chD_ok {r f : Int → Int} {n : Int} {L : Nat} (hV : RS r) (hR : RowOk f n) (hL : plyd r f n L) (p l : Int) : -1 ≤ chD f L p l ∧ chD f L p l < 5 ∧ (chD f L p l ≠ -1 → 0 ≤ chD f L p l ∧ chD f L p l < r 0 ∧ bt p (chD f L p l) = 0) := by
  have h := chD_rng hR L hL.1 p l
  refine ⟨h.1, h.2.1, fun q => ?_⟩
  obtain ⟨j, j1, j2, j3, j4⟩ := h.2.2 q
  have hLn := hL.1
  have hf := hR.1 j (by omega) (by omega)
  have hp := pfx_ok hR j (by omega)
  have hc := canB_s hV ⟨hp.1, hp.2.1⟩ hf (hL.2.1 j j1)
  rw [j4, j2]
  exact ⟨hf.1, hc.1, hc.2⟩
theorem T_X12_choose {ch : Int} (hS : Sh M) (hM : MOK M sm) (h39 : rd M 67 39 = -1) (hch : 0 ≤ ch ∧ ch ≤ 3) (hd : 12 ≤ d)
    (h : ∀ M' CH, Fr KG M M' → Sh M' → chOk (rd M 69) sm ch CH → (∀ p l z o : Int, VS (rd M 69 0) p l → 0 ≤ z → z < 6 → 0 ≤ o → o < 6 → rd M' 82 (sta p l z o) = CH p l z o) → (ch = 3 → rd M' 67 43 = (fixL (rd M 69) sm).length ∧ ∀ i : Int, 0 ≤ i → i < (fixL (rd M 69) sm).length → rd M' 89 i = rowf (fixL (rd M 69) sm) i) → Q vU M') : C G Y_X12_choose d 0 0 [vA 67, vI ch] M Q := by
  have hV := hM.1
  have n05 : 0 ≤ rd M 69 0 ∧ rd M 69 0 ≤ 5 := ⟨hV.1, hV.2.1⟩
  refine C_X12_choose (B_X12_choose_0 (by omega) hS ⟨⟨by omega, by omega⟩, fun q0 => ⟨fun q1 => ⟨fun q2 => ?_, fun q2 => ?_⟩, fun q1 => ?_⟩, fun q0 => ?_⟩)
  · -- FIXED
    have e3 : ch = 3 := by omega
    refine T_X12_findFixed hS hM h39 (by omega) (fun M1 f1 hS1 hA1 => ⟨hS1, ?_⟩)
    obtain ⟨e, hnd, -⟩ := fixL_ok sm hV
    rw [e] at hA1
    obtain ⟨-, -, a3⟩ := hA1
    dsimp only at a3
    obtain ⟨-, a4, a5, -⟩ := a3
    have e69 : rd M1 69 = rd M 69 := funext fun j => f1.2.2 _ _ (by unfold KG KF KR KE KA; omega)
    rw [a4]
    refine T_X12_chooseRow (f := rowf (fixL (rd M 69) sm)) hS1 (by rw [e69]; exact hV) (by decide) (fun i i0 i1 => ⟨sA_89 hS1 (by omega) (by have := hnd.2.1; omega), by rw [Int.zero_add]; exact a5 i i0 i1⟩) hnd.1 ⟨by omega, by have := hnd.2.1; omega⟩ (by omega) (fun M2 L f2 hS2 hL hc => ⟨hS2, ?_⟩)
    rw [e69] at hL
    refine h M2 (fun p l _ _ => chD (rowf (fixL (rd M 69) sm)) L p l) (f1.tr (f2.mono (fun a j q => Or.inl (Or.inl (Or.inr (Or.inr q)))))) hS2 ⟨fun p l z o hv _ _ _ _ => chD_ok hV hnd.1 hL p l, fun g z o => ?_, fun w => by omega, fun w => by omega⟩ (fun p l z o hv z0 z1 o0 o1 => by have := VS_rng hv n05; exact hc p l z o this.1 this.2.1 this.2.2.1 this.2.2.2 z0 z1 o0 o1) (fun _ => ⟨by rw [f2.2.2 _ _ (by unfold K82; omega)]; exact a4, fun i i0 i1 => by rw [f2.2.2 _ _ (by unfold K82; omega)]; exact a5 i i0 i1⟩)
    unfold rtV
    rw [if_neg (by omega), if_neg (by omega), if_neg (by omega)]
    exact rowV_eq hnd.1 (by have := hnd.2.1; omega) hL z o
  · -- AHEAD
    refine T_X12_reckon (sm := sm) (g := 8) (can := cBs (rd M 69)) hS hM (by rw [h39]; decide) (by rw [h39]; rfl) (Or.inr rfl) cBs_R (fun _ p l z o s hv s0 s1 => by have := VS_rng hv n05; exact cBs_iff hV ⟨this.1, this.2.1⟩ ⟨s0, s1⟩) (fun w => by omega) (by omega) (fun M1 f1 hS1 hv1 => ⟨hS1, ?_⟩)
    refine h M1 (aheadC (rd M 69) sm) (f1.mono (fun a j q => Or.inl (Or.inl q))) hS1 ⟨fun p l z o hv z0 z1 o0 o1 => ?_, fun g z o => ?_, fun w => by omega, fun _ => rfl⟩ (fun p l z o hv z0 z1 o0 o1 => by rw [(hv1 p l z o hv z0 z1 o0 o1).2, if_neg (by decide)]; rfl) (fun w => by omega)
    · have hr := VS_rng hv n05
      unfold aheadC
      rw [VV_eq cBs_R.1 ⟨hr.1, hr.2.1⟩]
      split
      · dsimp only; exact ⟨by omega, by omega, fun w => absurd rfl w⟩
      · have hb := bstF_rng (can := cBs (rd M 69) p l z o) (w := fun s => Wf (rd M 69) sm 8 (fun p l z o => (VV (rd M 69) sm 8 (cBs (rd M 69)) p l z o).1) s p l z o) (n := (rd M 69 0).toNat)
        refine ⟨hb.1, by have := hb.2.1; omega, fun w => ?_⟩
        have := (hb.2.2.2 w).1
        have h1 := cBs_R.1 _ _ _ _ _ this
        have h2 := cBs_R.2 _ _ _ _ _ this
        exact ⟨h1.1, h2, h1.2.2⟩
    · unfold rtV
      rw [if_neg (by omega), if_neg (by omega), if_pos q2]
  · -- MOST
    refine T_X12_chooseMost (sm := sm) hS hM (by omega) (fun M1 f1 hS1 hv1 => ⟨hS1, ?_⟩)
    refine h M1 (mst (rd M 69) sm) (f1.mono (fun a j q => Or.inl (Or.inl (q.elim (fun w => Or.inl (Or.inl w)) (fun w => Or.inr (Or.inr w)))))) hS1 ⟨fun p l z o hv z0 z1 o0 o1 => ?_, fun g z o => ?_, fun _ => rfl, fun w => by omega⟩ hv1 (fun w => by omega)
    · have hr := VS_rng hv n05
      have hm := mstP_ok (r := rd M 69) (sm := sm) (p := p) (l := l) ⟨z0, z1⟩ ⟨o0, o1⟩ (rd M 69 0).toNat
      unfold mst
      refine ⟨hm.1, by have := hm.2.1; omega, fun w => ?_⟩
      have := canB_s hV ⟨hr.1, hr.2.1⟩ ⟨by omega, by have := hm.2.1; omega⟩ (hm.2.2.2.2 w)
      exact ⟨by omega, this.1, this.2⟩
    · unfold rtV
      rw [if_neg q0, if_pos q1]
  · -- BOOK
    obtain ⟨hR, h3, h3'⟩ := bk_ok hV
    refine T_X12_chooseRow (f := bkf (rd M 69)) hS hV (by decide) (fun i i0 i1 => ⟨sA_69 hS (by omega) (by omega), rfl⟩) hR ⟨h3, h3'⟩ (by omega) (fun M2 L f2 hS2 hL hc => ⟨hS2, ?_⟩)
    refine h M2 (fun p l _ _ => chD (bkf (rd M 69)) L p l) (f2.mono (fun a j q => Or.inl (Or.inl (Or.inr (Or.inr q))))) hS2 ⟨fun p l z o hv _ _ _ _ => chD_ok hV hR hL p l, fun g z o => ?_, fun w => by omega, fun w => by omega⟩ (fun p l z o hv z0 z1 o0 o1 => by have := VS_rng hv n05; exact hc p l z o this.1 this.2.1 this.2.2.1 this.2.2.2 z0 z1 o0 o1) (fun w => by omega)
    unfold rtV
    rw [if_pos q0]
    exact rowV_eq hR h3' hL z o
theorem T_X12_findRoot {ch goal : Int} (hS : Sh M) (hM : MOK M sm) (h39 : rd M 67 39 = -1) (hch : 0 ≤ ch ∧ ch ≤ 3) (hg : 0 ≤ goal ∧ goal ≤ 8) (hd : 13 ≤ d)
    (h : ∀ M', Fr KG M M' → Sh M' → nrm (rd M' 85) 0 14 → vl (rd M' 85) 0 14 = rtV (rd M 69) sm ch goal (rd M 69 30) (rd M 69 33) → Q vU M') : C G Y_X12_findRoot d 0 0 [vA 67, vI ch, vI goal] M Q := by
  have hV := hM.1
  have n05 : 0 ≤ rd M 69 0 ∧ rd M 69 0 ≤ 5 := ⟨hV.1, hV.2.1⟩
  have hz := hV.p0
  have ho := hV.p1
  refine C_X12_findRoot (B_X12_findRoot_0 (by omega) hS ?_)
  refine T_X12_choose hS hM h39 hch (by omega) (fun M1 CH f1 hS1 hCH hc1 _ => ⟨hS1, ?_⟩)
  have e69 : rd M1 69 = rd M 69 := funext fun j => f1.2.2 _ _ (by unfold KG KF KR KE KA; omega)
  have e39 : rd M1 67 39 = -1 := by rw [f1.2.2 _ _ (by unfold KG KF KR KE KA; omega)]; exact h39
  refine T_X12_reckon (sm := sm) (g := goal) (can := cF CH (rd M 69)) hS1 (hM.fr f1 (fun j q => by unfold KG KF KR KE KA at q; omega)) (by rw [e39]; exact ⟨hg.1, hg.2, by decide, by decide, fun w => absurd rfl w⟩) (by rw [e39]; rfl) (Or.inl rfl) (by rw [e69]; exact cF_R) (fun w => by omega) (fun _ p l z o hv z0 z1 o0 o1 => ?_) (by omega) (fun M2 f2 hS2 hv2 => ⟨hS2, ?_⟩)
  · rw [e69] at hv
    obtain ⟨c1, c2, c3⟩ := hCH.1 p l z o hv z0 z1 o0 o1
    rw [hc1 p l z o hv z0 z1 o0 o1]
    refine ⟨c1, c2, fun s s0 s1 => ?_⟩
    simp only [cF, Bool.and_eq_true, decide_eq_true_eq]
    refine ⟨fun w => w.1, fun w => ⟨w, ⟨s0, s1⟩, ?_⟩⟩
    have := c3 (by omega)
    rw [w]; exact ⟨this.2.1, this.2.2⟩
  · have e69' : rd M2 69 = rd M 69 := funext fun j => (f2.2.2 _ _ (by unfold KR KE KA; omega)).trans (by rw [e69])
    have f2' : Fr KG M M2 := f1.tr (f2.mono (fun a j q => Or.inl (Or.inl q)))
    have hsh := shl_ok n05.1 n05.2
    obtain ⟨hT, -⟩ := hv2 0 (-1) (rd M 69 30) (rd M 69 33) ⟨by decide, by rw [e69]; omega, by decide, by rw [e69]; omega, Or.inl ⟨rfl, rfl⟩⟩ hz.1 hz.2 ho.1 ho.2
    rw [e69, hCH.2.1] at hT
    have est : (14 * ((((((((0 : Int) * 6) + (-1 : Int)) + 1) * 6) + (rd M 69 30)) * 6) + (rd M 69 33))) = 14 * sta 0 (-1) (rd M 69 30) (rd M 69 33) := rfl
    have hst : 0 ≤ sta 0 (-1) (rd M 69 30) (rd M 69 33) ∧ sta 0 (-1) (rd M 69 30) (rd M 69 33) < 6912 := by unfold sta; omega
    have key : ∀ m k : Nat, k + m = 14 → ∀ Mk, Fr KG M Mk → Sh Mk → (∀ j, rd Mk 69 j = rd M 69 j) → (∀ j, rd Mk 81 j = rd M2 81 j) → (∀ i : Int, 0 ≤ i → i < k → rd Mk 85 i = rd M2 81 (14 * sta 0 (-1) (rd M 69 30) (rd M 69 33) + i)) → X G Y_X12_findRoot d 0 0 13 [vA 67, vI ch, vI goal, vI k] [] Mk Q := by
      intro m
      induction m with
      | zero =>
        intro k hk Mk fk hSk k69 k81 k85
        refine B_X12_findRoot_13 (by omega) hSk ⟨⟨by omega, by omega⟩, fun _ => h Mk fk hSk (fun i i0 i1 => ?_) ?_, fun q => by omega⟩
        · rw [Int.zero_add, k85 i i0 (by omega)]; exact hT.1 i i0 i1
        · rw [vl_congr (g := rd M2 81) (b := 14 * sta 0 (-1) (rd M 69 30) (rd M 69 33)) (fun i i0 i1 => by rw [Int.zero_add]; exact k85 i i0 (by omega))]; exact hT.2
      | succ m ih =>
        intro k hk Mk fk hSk k69 k81 k85
        refine B_X12_findRoot_13 (by omega) hSk ?_
        rw [k69, k69, est]
        refine ⟨⟨by omega, by omega⟩, fun q => by omega, fun _ => ⟨by omega, by omega, by omega, by omega, fun M4 e4 hS4 => ?_⟩⟩
        have z4 : ∀ a j : Int, a ≠ 85 → rd M4 a j = rd Mk a j := fun a j q => by rw [e4, rd_wr, if_neg (fun w => q w.1)]
        refine ih (k + 1) (by omega) M4 (by rw [e4]; exact fk.wr (Or.inl (Or.inr (Or.inl rfl)))) hS4 (fun j => by rw [z4 _ _ (by decide)]; exact k69 j) (fun j => by rw [z4 _ _ (by decide)]; exact k81 j) (fun i i0 i1 => ?_)
        rw [e4, rd_wr]
        by_cases q : i = k
        · rw [if_pos ⟨rfl, q⟩, k81, q]
        · rw [if_neg (fun w => q w.2)]; exact k85 i i0 (by omega)
    exact key 14 0 rfl M2 f2' hS2 (fun j => by rw [e69']) (fun j => rfl) (fun i i0 i1 => by omega)
end RT
