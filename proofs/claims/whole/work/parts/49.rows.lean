/-! ===== choosers: MOST, and rows ===== -/
def mstV (r : Int → Int) (sm : Int → LSm) (p l z o s : Int) : Int := if r (12 + 3 * s) = 1 then 100 * (z + o) else z * chn r sm 0 s p l z o + o * chn r sm 1 s p l z o
def mstP (r : Int → Int) (sm : Int → LSm) (p l z o : Int) : Nat → Int × Int
  | 0 => (-1, -1)
  | s + 1 => if bt (canB r p) (s : Int) = 1 ∧ (mstP r sm p l z o s).2 < mstV r sm p l z o s then ((s : Int), mstV r sm p l z o s) else mstP r sm p l z o s
def mst (r : Int → Int) (sm : Int → LSm) (p l z o : Int) : Int := (mstP r sm p l z o (r 0).toNat).1
theorem mstV_ok {r : Int → Int} {sm : Int → LSm} {p l z o s : Int} (hz : 0 ≤ z ∧ z < 6) (ho : 0 ≤ o ∧ o < 6) : 0 ≤ mstV r sm p l z o s ∧ mstV r sm p l z o s ≤ 1000 := by
  unfold mstV
  have h1 := @chn_ok r sm 0 s p l z o
  have h2 := @chn_ok r sm 1 s p l z o
  have m1 := mul_le hz.1 (show z ≤ 5 by omega) h1.1 h1.2
  have m2 := mul_le ho.1 (show o ≤ 5 by omega) h2.1 h2.2
  split <;> omega
theorem mstP_ok {r : Int → Int} {sm : Int → LSm} {p l z o : Int} (hz : 0 ≤ z ∧ z < 6) (ho : 0 ≤ o ∧ o < 6) : ∀ n : Nat, -1 ≤ (mstP r sm p l z o n).1 ∧ (mstP r sm p l z o n).1 < n ∧ -1 ≤ (mstP r sm p l z o n).2 ∧ (mstP r sm p l z o n).2 ≤ 1000 ∧ ((mstP r sm p l z o n).1 ≠ -1 → bt (canB r p) (mstP r sm p l z o n).1 = 1)
  | 0 => by simp [mstP]
  | n + 1 => by
    have ih := mstP_ok (r := r) (sm := sm) (p := p) (l := l) hz ho n
    have hv := @mstV_ok r sm p l z o n hz ho
    simp only [mstP]
    split
    · rename_i q; exact ⟨by dsimp only; omega, by dsimp only; omega, by dsimp only; omega, by dsimp only; omega, fun _ => q.1⟩
    · exact ⟨ih.1, by omega, ih.2.2.1, ih.2.2.2.1, ih.2.2.2.2⟩
/-- the first i scenes of a row; the one ahead of the i-th -/
def pfx (f : Int → Int) : Nat → Int
  | 0 => 0
  | i + 1 => sb (pfx f i) (f (i : Int))
def lat (f : Int → Int) (i : Nat) : Int := if i = 0 then -1 else f ((i : Int) - 1)
/-- a row of n scenes, none twice -/
def RowOk (f : Int → Int) (n : Int) : Prop := (∀ i : Int, 0 ≤ i → i < n → 0 ≤ f i ∧ f i < 5) ∧ ∀ i j : Int, 0 ≤ i → i < j → j < n → f i ≠ f j
theorem pfx_ok {f : Int → Int} {n : Int} (h : RowOk f n) : ∀ i : Nat, (i : Int) ≤ n → 0 ≤ pfx f i ∧ pfx f i < 32 ∧ pop (pfx f i) = i ∧ ∀ s : Int, 0 ≤ s → s < 5 → (bt (pfx f i) s = 1 ↔ ∃ j : Int, 0 ≤ j ∧ j < i ∧ f j = s)
  | 0, _ => ⟨by show (0 : Int) ≤ 0; decide, by show (0 : Int) < 32; decide, by show pop 0 = 0; decide +kernel, fun s s0 s1 => by
      show bt 0 s = 1 ↔ _
      rw [bt_0 ⟨s0, s1⟩]
      constructor
      · intro q; omega
      · rintro ⟨j, j0, j1, _⟩; omega⟩
  | i + 1, hi => by
    obtain ⟨h1, h2, h3, h4⟩ := pfx_ok h i (by omega)
    have hf := h.1 i (by omega) (by omega)
    have hb : bt (pfx f i) (f i) = 0 := by
      rcases bt01 h1 h2 hf.1 hf.2 with q | q
      · exact q
      · obtain ⟨j, j0, j1, e⟩ := (h4 _ hf.1 hf.2).mp q
        exact absurd e (h.2 j i j0 j1 (by omega))
    have hl := sb_lt h1 h2 hf.1 hf.2
    refine ⟨hl.1, hl.2, by show pop (sb _ _) = _; rw [pop_sb h1 h2 hf.1 hf.2 hb, h3]; omega, fun s s0 s1 => ?_⟩
    show bt (sb (pfx f i) (f i)) s = 1 ↔ _
    rw [sb_bt h1 h2 hf.1 hf.2 s0 s1]
    by_cases q : s = f i
    · rw [if_pos q]; exact ⟨fun _ => ⟨i, by omega, by omega, q.symm⟩, fun _ => rfl⟩
    · rw [if_neg q, h4 s s0 s1]
      constructor
      · rintro ⟨j, j0, j1, e⟩; exact ⟨j, j0, by omega, e⟩
      · rintro ⟨j, j0, j1, e⟩
        have : j ≠ i := fun w => q (by rw [← e, w])
        exact ⟨j, j0, by omega, e⟩
theorem pfx_bt {f : Int → Int} {n : Int} (h : RowOk f n) {i : Nat} (hi : (i : Int) < n) : bt (pfx f i) (f i) = 0 := by
  obtain ⟨h1, h2, h3, h4⟩ := pfx_ok h i (by omega)
  have hf := h.1 i (by omega) hi
  rcases bt01 h1 h2 hf.1 hf.2 with q | q
  · exact q
  · obtain ⟨j, j0, j1, e⟩ := (h4 _ hf.1 hf.2).mp q
    exact absurd e (h.2 j i j0 j1 hi)
def nxt (r f : Int → Int) (n p : Int) : Int := if pop p < n ∧ pfx f (pop p).toNat = p ∧ bt (canB r p) (f (pop p)) = 1 then f (pop p) else -1
/-- what is chosen along a row, as the model writes it down -/
def chD (f : Int → Int) : Nat → Int → Int → Int
  | 0, _, _ => -1
  | i + 1, p, l => if p = pfx f i ∧ l = lat f i then f (i : Int) else chD f i p l
theorem pfx_congr {f g : Int → Int} : ∀ {i : Nat}, (∀ j : Int, 0 ≤ j → j < i → f j = g j) → pfx f i = pfx g i
  | 0, _ => rfl
  | i + 1, h => by rw [pfx, pfx, pfx_congr (fun j j0 j1 => h j j0 (by omega)), h i (by omega) (by omega)]
/-- by one choice at each place -/
def cF (c : Int → Int → Int → Int → Int) (r : Int → Int) : CAN := fun p l z o s => decide (s = c p l z o) && (decide (0 ≤ s ∧ s < 5) && (decide (s < r 0) && decide (bt p s = 0)))
def cBs (r : Int → Int) : CAN := fun p _ _ _ s => decide (bt (canB r p) s = 1) && decide (0 ≤ s ∧ s < 5 ∧ s < r 0 ∧ bt p s = 0)
theorem cF_R {c : Int → Int → Int → Int → Int} {r : Int → Int} : canR r (cF c r) := by
  refine ⟨fun p l z o s h => ?_, fun p l z o s h => ?_⟩
  · simp only [cF, Bool.and_eq_true, decide_eq_true_eq] at h; exact ⟨h.2.1.1, h.2.1.2, h.2.2.2⟩
  · simp only [cF, Bool.and_eq_true, decide_eq_true_eq] at h; exact h.2.2.1
theorem cBs_R {r : Int → Int} : canR r (cBs r) := by
  refine ⟨fun p l z o s h => ?_, fun p l z o s h => ?_⟩
  · simp only [cBs, Bool.and_eq_true, decide_eq_true_eq] at h; exact ⟨h.2.1, h.2.2.1, h.2.2.2.2⟩
  · simp only [cBs, Bool.and_eq_true, decide_eq_true_eq] at h; exact h.2.2.2.1
/-- a scene that can be played is there and was not played -/
theorem canB_s {r : Int → Int} (hV : RS r) {p s : Int} (hp : 0 ≤ p ∧ p < 32) (hs : 0 ≤ s ∧ s < 5) (h : bt (canB r p) s = 1) : s < r 0 ∧ bt p s = 0 := by
  obtain ⟨h1, h2, h3⟩ := ((canB_ok hV p).2.2 s hs.1 hs.2).mp h
  refine ⟨h2, ?_⟩
  unfold opB at h3
  simp only [Bool.and_eq_true, decide_eq_true_eq] at h3
  rcases bt01 hp.1 hp.2 hs.1 hs.2 with q | q
  · exact q
  · exact absurd q h3.1
theorem cBs_iff {r : Int → Int} (hV : RS r) {p l z o s : Int} (hp : 0 ≤ p ∧ p < 32) (hs : 0 ≤ s ∧ s < 5) : cBs r p l z o s = true ↔ bt (canB r p) s = 1 := by
  simp only [cBs, Bool.and_eq_true, decide_eq_true_eq]
  exact ⟨fun h => h.1, fun h => ⟨h, hs.1, hs.2, canB_s hV hp hs h⟩⟩
section RW
variable {G : GG} {d : Nat} {M : MM} {Q : PV → MM → Prop} {sm : Int → LSm}
theorem T_X12_mostBehind {p l z o : Int} (hS : Sh M) (hM : MOK M sm) (hp : 0 ≤ p ∧ p < 32) (hl : -1 ≤ l ∧ l < 5) (hz : 0 ≤ z ∧ z < 6) (ho : 0 ≤ o ∧ o < 6) (hd : 7 ≤ d)
    (h : ∀ v M', (Fr KA M M' ∧ v = mst (rd M 69) sm p l z o) → Sh M' → Q (vI v) M') : C G Y_X12_mostBehind d 0 0 [vA 67, vI p, vI l, vI z, vI o] M Q := by
  have n0 := hM.1.1
  have n5 := hM.1.2.1
  refine C_X12_mostBehind (B_X12_mostBehind_0 (by omega) hS ⟨hM.1, hp, fun v3 e3 => ?_⟩)
  have key : ∀ m n : Nat, (n : Int) + m = rd M 69 0 → ∀ Mk, Fr KA M Mk → Sh Mk → X G Y_X12_mostBehind d 0 0 16 [vA 67, vI p, vI l, vI z, vI o, vI (mstP (rd M 69) sm p l z o n).1, vI (mstP (rd M 69) sm p l z o n).2, vI v3, vI n, vU, vU] [] Mk Q := by
    intro m
    induction m with
    | zero =>
      intro n hn Mk fk hSk
      have ek : rd Mk 69 = rd M 69 := funext fun j => fk.2.2 _ _ (by unfold KA; omega)
      refine B_X12_mostBehind_16 (sm := sm) hd hSk ?_
      rw [ek]
      refine ⟨⟨by omega, by omega⟩, ⟨by omega, by omega⟩, fun _ => h _ Mk ⟨fk, ?_⟩ hSk, fun q => by omega⟩
      unfold mst; rw [show (rd M 69 0).toNat = n by omega]
    | succ m ih =>
      intro n hn Mk fk hSk
      have ek : rd Mk 69 = rd M 69 := funext fun j => fk.2.2 _ _ (by unfold KA; omega)
      have hMk := hM.fr fk (fun j q => by unfold KA at q; omega)
      have hsc := hM.1.2.2.1 n (by omega) (by omega)
      have hmp := mstP_ok (r := rd M 69) (sm := sm) (p := p) (l := l) hz ho n
      have e12 : (10 : Int) + 3 * n + 2 = 12 + 3 * n := by omega
      have hv := @mstV_ok (rd M 69) sm p l z o n hz ho
      have fin : ∀ (v : Int) (M2 : MM), Fr KA M M2 → Sh M2 → v = mstV (rd M 69) sm p l z o n → bt v3 n = 1 → ∀ v30, v30 = (if v ≤ (mstP (rd M 69) sm p l z o n).2 then (mstP (rd M 69) sm p l z o n).1 else (n : Int)) → ∀ v35, v35 = (if v ≤ (mstP (rd M 69) sm p l z o n).2 then (mstP (rd M 69) sm p l z o n).2 else v) → X G Y_X12_mostBehind d 0 0 16 [vA 67, vI p, vI l, vI z, vI o, vI v30, vI v35, vI v3, vI ((n : Int) + 1), vU, vU] [] M2 Q := by
        intro v M2 f2 hS2 ev hb v30 e30 v35 e35
        have := ih (n + 1) (by omega) M2 f2 hS2
        have em : mstP (rd M 69) sm p l z o (n + 1) = (v30, v35) := by
          simp only [mstP]
          rw [e3] at hb
          by_cases q : (mstP (rd M 69) sm p l z o n).2 < mstV (rd M 69) sm p l z o n
          · rw [if_pos ⟨hb, q⟩, e30, e35, if_neg (by omega), if_neg (by omega), ev]
          · rw [if_neg (fun w => q w.2), e30, e35, if_pos (by omega), if_pos (by omega)]
        rw [em] at this
        exact this
      refine B_X12_mostBehind_16 (sm := sm) hd hSk ?_
      rw [ek, e12]
      refine ⟨⟨by omega, by omega⟩, ⟨by omega, by omega⟩, fun q => by omega, fun _ => ⟨fun q => ?_, fun q => ⟨by omega, by omega, ⟨by omega, by omega⟩, fun v10 e10 => ⟨by rw [e10]; split <;> exact ⟨by decide, by decide⟩, fun q2 => ?_, fun q2 v e => ?_⟩⟩⟩⟩
      · have := ih (n + 1) (by omega) Mk fk hSk
        have em : mstP (rd M 69) sm p l z o (n + 1) = mstP (rd M 69) sm p l z o n := by
          simp only [mstP]; rw [if_neg]; intro w; rw [← e3] at w; exact q w.1
        rw [em] at this
        exact this
      · have hne : ¬ rd M 69 (12 + 3 * n) = 1 := fun w => by rw [if_pos w] at e10; omega
        refine ⟨hMk, Or.inl rfl, ⟨⟨by omega, by omega⟩, hp, hl, hz, ho⟩, fun r16 M15 ⟨f15, e16⟩ hS15 => ?_⟩
        have ek15 : rd M15 69 = rd M 69 := funext fun j => (f15.2.2 _ _ (by unfold KA; omega)).trans (by rw [ek])
        refine ⟨hMk.fr f15 (fun j q => by unfold KA at q; omega), Or.inr rfl, fun r21 M20 ⟨f20, e21⟩ hS20 v23 e23 => ?_⟩
        rw [ek15] at e21
        have ev : v23 = mstV (rd M 69) sm p l z o n := by unfold mstV; rw [if_neg hne, e23, e16, e21]
        exact ⟨⟨by omega, by omega⟩, ⟨by omega, by omega⟩, fun v30 e30 v35 e35 => fin v23 M20 ((fk.tr f15).tr f20) hS20 ev q v30 e30 v35 e35⟩
      · have he : rd M 69 (12 + 3 * n) = 1 := by
          by_cases w : rd M 69 (12 + 3 * n) = 1
          · exact w
          · rw [if_neg w] at e10; omega
        have ev : v = mstV (rd M 69) sm p l z o n := by unfold mstV; rw [if_pos he, e]
        exact ⟨⟨by omega, by omega⟩, ⟨by omega, by omega⟩, fun v30 e30 v35 e35 => fin v Mk fk hSk ev q v30 e30 v35 e35⟩
  exact key (rd M 69 0).toNat 0 (by omega) M Fr.rf hS
theorem T_X12_chooseMost (hS : Sh M) (hM : MOK M sm) (hd : 8 ≤ d) (h : ∀ M', Fr (fun a j => KA a j ∨ a = 82) M M' → Sh M' → (∀ p l z o : Int, VS (rd M 69 0) p l → 0 ≤ z → z < 6 → 0 ≤ o → o < 6 → rd M' 82 (sta p l z o) = mst (rd M 69) sm p l z o) → Q vU M') : C G Y_X12_chooseMost d 0 0 [vA 67] M Q := by
  have n0 := hM.1.1
  have n5 := hM.1.2.1
  have hsh := shl_ok n0 n5
  let D : Int → Int → Int → MM → Prop := fun p l k Mk => Fr (fun a j => KA a j ∨ a = 82) M Mk ∧ Sh Mk ∧ ∀ p' l' z' o' : Int, VS (rd M 69 0) p' l' → 0 ≤ z' → z' < 6 → 0 ≤ o' → o' < 6 → (p' < p ∨ (p' = p ∧ (l' < l ∨ (l' = l ∧ 6 * z' + o' < k)))) → rd Mk 82 (sta p' l' z' o') = mst (rd M 69) sm p' l' z' o'
  have e69 : ∀ Mk, Fr (fun a j => KA a j ∨ a = 82) M Mk → rd Mk 69 = rd M 69 := fun Mk fk => funext fun j => fk.2.2 _ _ (by unfold KA; omega)
  have key : ∀ (mp : Nat) (p : Int), p + mp = iShl 1 (rd M 69 0) → 0 ≤ p → ∀ Mk, D p (-1) 0 Mk → X G Y_X12_chooseMost d 0 0 2 [vA 67, vI p, vU, vU] [] Mk Q := by
    intro mp
    induction mp with
    | zero =>
      intro p hp _ Mk ⟨fk, hSk, hk⟩
      refine B_X12_chooseMost_2 (by omega) hSk ?_
      rw [e69 Mk fk]
      exact ⟨⟨by omega, by omega⟩, fun _ => h Mk fk hSk (fun p' l' z' o' hv z0 z1 o0 o1 => hk p' l' z' o' hv z0 z1 o0 o1 (Or.inl (by have := hv.2.1; omega))), fun q => by omega⟩
    | succ mp ihp =>
      intro p hp p0 Mk hD
      refine B_X12_chooseMost_2 (by omega) hD.2.1 ?_
      rw [e69 Mk hD.1]
      refine ⟨⟨by omega, by omega⟩, fun q => by omega, fun _ => ?_⟩
      have kl : ∀ (ml : Nat) (l : Int), l + ml = rd M 69 0 → -1 ≤ l → ∀ Mj, D p l 0 Mj → X G Y_X12_chooseMost d 0 0 16 [vA 67, vI p, vI l, vU] [] Mj Q := by
        intro ml
        induction ml with
        | zero =>
          intro l hl hl1 Mj ⟨fj, hSj, hj⟩
          refine B_X12_chooseMost_16 (by omega) hSj ?_
          rw [e69 Mj fj]
          refine ⟨⟨by omega, by omega⟩, ⟨by omega, by omega⟩, fun _ => ihp (p + 1) (by omega) (by omega) Mj ⟨fj, hSj, fun p' l' z' o' hv z0 z1 o0 o1 hd' => hj p' l' z' o' hv z0 z1 o0 o1 ?_⟩, fun q => by omega⟩
          have := hv.2.2.2.1; have := hv.2.2.1; omega
        | succ ml ihl =>
          intro l hl hl1 Mj hDj
          refine B_X12_chooseMost_16 (by omega) hDj.2.1 ?_
          rw [e69 Mj hDj.1]
          refine ⟨⟨by omega, by omega⟩, ⟨by omega, by omega⟩, fun q => by omega, fun _ => ?_⟩
          have kk : ∀ (mk k : Nat), k + mk = 36 → ∀ Mi, D p l k Mi → X G Y_X12_chooseMost d 0 0 28 [vA 67, vI p, vI l, vI k] [] Mi Q := by
            intro mk
            induction mk with
            | zero =>
              intro k hk Mi ⟨fi, hSi, hi⟩
              refine B_X12_chooseMost_28 (by omega) hSi ⟨⟨by omega, by omega⟩, ⟨by omega, by omega⟩, ⟨by omega, by omega⟩, fun _ => ?_, fun q => absurd (Or.inl (by omega)) q⟩
              exact ihl (l + 1) (by omega) (by omega) Mi ⟨fi, hSi, fun p' l' z' o' hv z0 z1 o0 o1 hd' => hi p' l' z' o' hv z0 z1 o0 o1 (by omega)⟩
            | succ mk ihk =>
              intro k hk Mi hDi
              obtain ⟨fi, hSi, hi⟩ := hDi
              refine B_X12_chooseMost_28 (by omega) hSi ⟨⟨by omega, by omega⟩, ⟨by omega, by omega⟩, ⟨by omega, by omega⟩, fun q => ?_, fun q => ?_⟩
              · have hns : ¬ isStt p l := by
                  rcases q with q | q
                  · omega
                  · exact q
                refine ihl (l + 1) (by omega) (by omega) Mi ⟨fi, hSi, fun p' l' z' o' hv z0 z1 o0 o1 hd' => hi p' l' z' o' hv z0 z1 o0 o1 ?_⟩
                by_cases w : p' = p ∧ l' = l
                · exact absurd (by have := hv.2.2.2.2; rw [w.1, w.2] at this; exact this) hns
                · omega
              · have hss : isStt p l := by
                  by_cases w : isStt p l
                  · exact w
                  · exact absurd (Or.inr w) q
                have hp32 : 0 ≤ p ∧ p < 32 := ⟨by omega, by omega⟩
                have hl5 : -1 ≤ l ∧ l < 5 := ⟨hl1, by omega⟩
                rw [Int.tdiv_eq_ediv_of_nonneg (by omega), Int.tmod_eq_emod_of_nonneg (by omega)]
                have hz : 0 ≤ (k : Int) / 6 ∧ (k : Int) / 6 < 6 := by omega
                have ho : 0 ≤ (k : Int) % 6 ∧ (k : Int) % 6 < 6 := by omega
                have hzo : 6 * ((k : Int) / 6) + (k : Int) % 6 = k := by omega
                generalize (k : Int) / 6 = z at *
                generalize (k : Int) % 6 = o at *
                have hst : 0 ≤ sta p l z o ∧ sta p l z o < 6912 := by unfold sta; omega
                have est : ((((((p * 6) + l) + 1) * 6) + z) * 6) + o = sta p l z o := rfl
                refine T_X12_mostBehind (sm := sm) hSi (hM.fr fi (fun j q => by unfold KA at q; omega)) hp32 hl5 hz ho (by omega) (fun v M2 ⟨f2, ev⟩ hS2 => ?_)
                rw [e69 Mi fi] at ev
                show Sh M2 ∧ _
                rw [est]
                refine ⟨hS2, hst.1, hst.2, fun M3 e3 hS3 => ?_⟩
                refine ihk (k + 1) (by omega) M3 ⟨by rw [e3]; exact (fi.tr (f2.mono (fun a j q => Or.inl q))).wr (Or.inr rfl), hS3, fun p' l' z' o' hv z0 z1 o0 o1 hd' => ?_⟩
                rw [e3, rd_wr]
                by_cases w : sta p' l' z' o' = sta p l z o
                · obtain ⟨w1, w2, w3, w4⟩ := sta_inj ⟨hv.2.2.1, by have := hv.2.2.2.1; omega⟩ ⟨z0, z1⟩ ⟨o0, o1⟩ hl5 hz ho w
                  rw [if_pos ⟨rfl, w⟩, ev, w1, w2, w3, w4]
                · rw [if_neg (fun q => w q.2), f2.2.2 _ _ (by unfold KA; omega)]
                  refine hi p' l' z' o' hv z0 z1 o0 o1 ?_
                  have : ¬ (p' = p ∧ l' = l ∧ 6 * z' + o' = k) := fun q => w (by
                    have hz' : z' = z := by omega
                    have ho' : o' = o := by omega
                    rw [q.1, q.2.1, hz', ho'])
                  omega
          exact kk 36 0 rfl Mj hDj
      exact kl (rd M 69 0 + 1).toNat (-1) (by omega) (by omega) Mk hD
  refine C_X12_chooseMost (B_X12_chooseMost_0 (by omega) hS ?_)
  exact key (iShl 1 (rd M 69 0)).toNat 0 (by omega) (by omega) M ⟨Fr.rf, hS, fun p' l' z' o' hv z0 z1 o0 o1 hd' => by have := hv.1; have := hv.2.2.1; omega⟩
end RW
