theorem sb_off {p s : Int} (hp : 0 ≤ p ∧ p < 32) (hs : 0 ≤ s ∧ s < 5) : bt p s = 0 → iAnd (sb p s) (iXor (iShl 1 s) (-1)) = p :=
  fin2 (P := fun p s => bt p s = 0 → iAnd (sb p s) (iXor (iShl 1 s) (-1)) = p) 32 5 (by decide +kernel) hp.1 hp.2 hs.1 hs.2
theorem iAnd_self {p : Int} (hp : 0 ≤ p ∧ p < 32) : iAnd p p = p := finI (P := fun p => iAnd p p = p) 32 (by decide +kernel) hp.1 hp.2
theorem lat_ok {f : Int → Int} {n : Int} (h : RowOk f n) {i : Nat} (hi : (i : Int) ≤ n) : -1 ≤ lat f i ∧ lat f i < 5 := by
  unfold lat
  split
  · omega
  · have := h.1 ((i : Int) - 1) (by omega) (by omega); omega
theorem chD_rng {f : Int → Int} {n : Int} (h : RowOk f n) : ∀ L : Nat, (L : Int) ≤ n → ∀ p l, -1 ≤ chD f L p l ∧ chD f L p l < 5 ∧ (chD f L p l ≠ -1 → ∃ j : Nat, j < L ∧ p = pfx f j ∧ l = lat f j ∧ chD f L p l = f j)
  | 0, _, p, l => ⟨by show (-1 : Int) ≤ -1; decide, by show (-1 : Int) < 5; decide, fun q => absurd rfl q⟩
  | L + 1, hL, p, l => by
    have ih := chD_rng h L (by omega) p l
    have hf := h.1 L (by omega) (by omega)
    simp only [chD]
    split
    · rename_i q; exact ⟨by omega, by omega, fun _ => ⟨L, by omega, q.1, q.2, rfl⟩⟩
    · exact ⟨ih.1, ih.2.1, fun q => by obtain ⟨j, j1, j2, j3, j4⟩ := ih.2.2 q; exact ⟨j, by omega, j2, j3, j4⟩⟩
theorem pfx_ne {f : Int → Int} {n : Int} (h : RowOk f n) {i j : Nat} (hi : (i : Int) ≤ n) (hj : (j : Int) ≤ n) (hne : i ≠ j) : pfx f i ≠ pfx f j := by
  intro e
  have h1 := (pfx_ok h i hi).2.2.1
  have h2 := (pfx_ok h j hj).2.2.1
  rw [e, h2] at h1; omega
theorem chD_at {f : Int → Int} {n : Int} (h : RowOk f n) {j : Nat} : ∀ L : Nat, (L : Int) ≤ n → (j : Int) ≤ n → chD f L (pfx f j) (lat f j) = if j < L then f j else -1
  | 0, _, _ => by rw [if_neg (by omega)]; rfl
  | L + 1, hL, hj => by
    simp only [chD]
    by_cases q : j = L
    · subst q; rw [if_pos ⟨rfl, rfl⟩, if_pos (by omega)]
    · rw [if_neg (fun w => pfx_ne h hj (by omega) q w.1), chD_at h L (by omega) hj]
      by_cases w : j < L
      · rw [if_pos w, if_pos (by omega)]
      · rw [if_neg w, if_neg (by omega)]
/-- the row can be played as far as L -/
def plyd (r f : Int → Int) (n : Int) (L : Nat) : Prop := (L : Int) ≤ n ∧ (∀ j : Nat, j < L → bt (canB r (pfx f j)) (f j) = 1) ∧ ((L : Int) < n → ¬ bt (canB r (pfx f L)) (f L) = 1)
section R2
variable {G : GG} {d : Nat} {M : MM} {Q : PV → MM → Prop} {sm : Int → LSm}
theorem T_X12_nextOf {a fr n p : Int} {f : Int → Int} (hS : Sh M) (hV : RS (rd M 69)) (hf : ∀ i : Int, 0 ≤ i → i < n → okA M a 20 (fr + i) ∧ rd M a (fr + i) = f i) (hR : RowOk f n) (hn : 0 ≤ n ∧ n ≤ 5) (hp : 0 ≤ p ∧ p < 32) (hd : 4 ≤ d)
    (h : Q (vI (nxt (rd M 69) f n p)) M) : C G Y_X12_nextOf d 0 0 [vA 67, vA a, vI fr, vI n, vI p] M Q := by
  refine C_X12_nextOf (B_X12_nextOf_0 (by omega) hS ?_)
  have key : ∀ m i : Nat, (i : Int) + m = n → (∀ j : Nat, j < i → pfx f j ≠ p) → X G Y_X12_nextOf d 0 0 6 [vA 67, vA a, vI fr, vI n, vI p, vI (pfx f i), vI i] [] M Q := by
    intro m
    induction m with
    | zero =>
      intro i hi hne
      have hpi := pfx_ok hR i (by omega)
      refine B_X12_nextOf_6 hd hS ⟨⟨by omega, by omega⟩, ⟨by omega, by omega⟩, fun _ => ?_, fun q => by omega⟩
      have hq := pop_le hp.1 hp.2
      unfold nxt at h
      rw [if_neg] at h
      · exact h
      · intro w; exact hne (pop p).toNat (by omega) w.2.1
    | succ m ih =>
      intro i hi hne
      have hpi := pfx_ok hR i (by omega)
      obtain ⟨ok, ef⟩ := hf i (by omega) (by omega)
      have hfi := hR.1 i (by omega) (by omega)
      refine B_X12_nextOf_6 hd hS ⟨⟨by omega, by omega⟩, ⟨by omega, by omega⟩, fun q => by omega, fun _ => ⟨⟨by omega, by omega⟩, ⟨by omega, by omega⟩, fun q => ⟨ok, fun v6 e6 => ?_⟩, fun q => ⟨hV, hp, ok, ?_⟩⟩⟩
      · rw [ef] at e6
        rw [e6]
        exact ih (i + 1) (by omega) (fun j hj => by
          by_cases w : j = i
          · subst w; exact q
          · exact hne j (by omega))
      · rw [ef]
        have hpop : pop p = i := by rw [← q]; exact hpi.2.2.1
        unfold nxt at h
        rw [hpop, show ((i : Int)).toNat = i by omega] at h
        refine ⟨fun w => ?_, fun w => ?_⟩
        · rw [if_neg (fun z => w z.2.2)] at h; exact h
        · rw [if_pos ⟨by omega, q, w⟩] at h; exact h
  exact key n.toNat 0 (by omega) (fun j hj => by omega)
def K82 (a j : Int) : Prop := a = 82
theorem T_X12_chooseRow {a fr n : Int} {f : Int → Int} (hS : Sh M) (hV : RS (rd M 69)) (ha : a ≠ 82) (hf : ∀ i : Int, 0 ≤ i → i < n → okA M a 20 (fr + i) ∧ rd M a (fr + i) = f i) (hR : RowOk f n) (hn : 0 ≤ n ∧ n ≤ 5) (hd : 4 ≤ d)
    (h : ∀ M' L, Fr K82 M M' → Sh M' → plyd (rd M 69) f n L → (∀ p l z o : Int, 0 ≤ p → p < 32 → -1 ≤ l → l < 5 → 0 ≤ z → z < 6 → 0 ≤ o → o < 6 → rd M' 82 (sta p l z o) = chD f L p l) → Q vU M') : C G Y_X12_chooseRow d 0 0 [vA 67, vA a, vI fr, vI n] M Q := by
  refine C_X12_chooseRow (B_X12_chooseRow_0 (by omega) hS ?_)
  have k34 : ∀ m i : Nat, (i : Int) + m = n → (∀ j : Nat, j < i → bt (canB (rd M 69) (pfx f j)) (f j) = 1) → ∀ Mk, Fr K82 M Mk → Sh Mk → (∀ p l z o : Int, 0 ≤ p → p < 32 → -1 ≤ l → l < 5 → 0 ≤ z → z < 6 → 0 ≤ o → o < 6 → rd Mk 82 (sta p l z o) = chD f i p l) →
      X G Y_X12_chooseRow d 0 0 34 [vA 67, vA a, vI fr, vI n, vI (pfx f i), vI (lat f i), vI i, vU, vU] [] Mk Q := by
    intro m
    induction m with
    | zero =>
      intro i hi hpl Mk fk hSk hc
      exact B_X12_chooseRow_34 hd hSk ⟨⟨by omega, by omega⟩, ⟨by omega, by omega⟩, fun _ => h Mk i fk hSk ⟨by omega, hpl, fun w => by omega⟩ hc, fun q => by omega⟩
    | succ m ih =>
      intro i hi hpl Mk fk hSk hc
      obtain ⟨ok, ef⟩ := hf i (by omega) (by omega)
      have hpi := pfx_ok hR i (by omega)
      have hfi := hR.1 i (by omega) (by omega)
      have hli := lat_ok hR (i := i) (by omega)
      have ek : rd Mk 69 = rd M 69 := funext fun j => fk.2.2 _ _ (by unfold K82; omega)
      have eka : rd Mk a (fr + i) = f i := (fk.2.2 _ _ ha).trans ef
      have okk : okA Mk a 20 (fr + i) := ok.tr (Int.le_of_eq fk.1.symm) (fun b _ _ => fk.2.1 b)
      refine B_X12_chooseRow_34 hd hSk ⟨⟨by omega, by omega⟩, ⟨by omega, by omega⟩, fun q => by omega, fun _ => ⟨okk, fun v4 e4 => ?_⟩⟩
      rw [eka] at e4
      subst e4
      rw [ek]
      refine ⟨hV, ⟨hpi.1, hpi.2.1⟩, fun q => ?_, fun q => h Mk i fk hSk ⟨by omega, hpl, fun _ => q⟩ hc⟩
      have kk : ∀ mk k : Nat, k + mk = 36 → ∀ Mj, Fr K82 M Mj → Sh Mj → (∀ p l z o : Int, 0 ≤ p → p < 32 → -1 ≤ l → l < 5 → 0 ≤ z → z < 6 → 0 ≤ o → o < 6 → rd Mj 82 (sta p l z o) = if p = pfx f i ∧ l = lat f i ∧ 6 * z + o < k then f i else chD f i p l) →
          X G Y_X12_chooseRow d 0 0 66 [vA 67, vA a, vI fr, vI n, vI (pfx f i), vI (lat f i), vI i, vI (f i), vI k] [] Mj Q := by
        intro mk
        induction mk with
        | zero =>
          intro k hk Mj fj hSj hj
          refine B_X12_chooseRow_66 (by omega) hSj ⟨⟨by omega, by omega⟩, fun _ v2 e2 => ?_, fun w => by omega⟩
          have := ih (i + 1) (by omega) (fun j hj' => by
            by_cases w : j = i
            · subst w; exact q
            · exact hpl j (by omega)) Mj fj hSj (fun p l z o p0 p1 l0 l1 z0 z1 o0 o1 => by
              rw [hj p l z o p0 p1 l0 l1 z0 z1 o0 o1]
              simp only [chD]
              by_cases w : p = pfx f i ∧ l = lat f i
              · rw [if_pos ⟨w.1, w.2, by omega⟩, if_pos w]
              · rw [if_neg (fun w2 => w ⟨w2.1, w2.2.1⟩), if_neg w])
          rw [e2]
          have el : lat f (i + 1) = f i := by unfold lat; rw [if_neg (by omega)]; congr 1; omega
          rw [el] at this
          exact this
        | succ mk ihk =>
          intro k hk Mj fj hSj hj
          refine B_X12_chooseRow_66 (by omega) hSj ⟨⟨by omega, by omega⟩, fun w => by omega, fun _ => ?_⟩
          rw [Int.tdiv_eq_ediv_of_nonneg (by omega), Int.tmod_eq_emod_of_nonneg (by omega)]
          have hz : 0 ≤ (k : Int) / 6 ∧ (k : Int) / 6 < 6 := by omega
          have ho : 0 ≤ (k : Int) % 6 ∧ (k : Int) % 6 < 6 := by omega
          have hzo : 6 * ((k : Int) / 6) + (k : Int) % 6 = k := by omega
          generalize (k : Int) / 6 = z at *
          generalize (k : Int) % 6 = o at *
          have est : ((((((pfx f i * 6) + lat f i) + 1) * 6) + z) * 6) + o = sta (pfx f i) (lat f i) z o := rfl
          have hst : 0 ≤ sta (pfx f i) (lat f i) z o ∧ sta (pfx f i) (lat f i) z o < 6912 := by unfold sta; omega
          rw [est]
          refine ⟨hst.1, hst.2, fun M5 e5 hS5 => ihk (k + 1) (by omega) M5 (by rw [e5]; exact fj.wr rfl) hS5 (fun p l z' o' p0 p1 l0 l1 z0 z1 o0 o1 => ?_)⟩
          rw [e5, rd_wr]
          by_cases w : sta p l z' o' = sta (pfx f i) (lat f i) z o
          · obtain ⟨w1, w2, w3, w4⟩ := sta_inj ⟨l0, l1⟩ ⟨z0, z1⟩ ⟨o0, o1⟩ hli hz ho w
            rw [if_pos ⟨rfl, w⟩, if_pos ⟨w1, w2, by omega⟩]
          · rw [if_neg (fun q => w q.2), hj p l z' o' p0 p1 l0 l1 z0 z1 o0 o1]
            by_cases w2 : p = pfx f i ∧ l = lat f i ∧ 6 * z' + o' < k
            · rw [if_pos w2, if_pos ⟨w2.1, w2.2.1, by omega⟩]
            · rw [if_neg w2, if_neg]
              intro w3
              apply w
              have hz' : z' = z := by omega
              have ho' : o' = o := by omega
              rw [w3.1, w3.2.1, hz', ho']
      exact kk 36 0 rfl Mk fk hSk (fun p l z o p0 p1 l0 l1 z0 z1 o0 o1 => by rw [if_neg (by omega)]; exact hc p l z o p0 p1 l0 l1 z0 z1 o0 o1)
  have k3 : ∀ m k : Nat, k + m = 6912 → ∀ Mk, Fr K82 M Mk → Sh Mk → (∀ i : Int, 0 ≤ i → i < k → rd Mk 82 i = -1) → X G Y_X12_chooseRow d 0 0 3 [vA 67, vA a, vI fr, vI n, vI k, vU, vU, vU, vU] [] Mk Q := by
    intro m
    induction m with
    | zero =>
      intro k hk Mk fk hSk hv
      refine B_X12_chooseRow_3 (by omega) hSk ⟨⟨by omega, by omega⟩, fun _ => ?_, fun q => by omega⟩
      exact k34 n.toNat 0 (by omega) (fun j hj => by omega) Mk fk hSk (fun p l z o p0 p1 l0 l1 z0 z1 o0 o1 => hv _ (by unfold sta; omega) (by unfold sta; omega))
    | succ m ih =>
      intro k hk Mk fk hSk hv
      refine B_X12_chooseRow_3 (by omega) hSk ⟨⟨by omega, by omega⟩, fun q => by omega, fun _ => ⟨by omega, by omega, fun M4 e4 hS4 => ?_⟩⟩
      refine ih (k + 1) (by omega) M4 (by rw [e4]; exact fk.wr rfl) hS4 (fun i i0 i1 => ?_)
      rw [e4, rd_wr]
      split
      · rfl
      · exact hv i i0 (by omega)
  exact k3 6912 0 rfl M Fr.rf hS (fun i i0 i1 => by omega)
end R2
