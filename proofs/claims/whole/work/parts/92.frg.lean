/-! ===== pieces of code put together ===== -/
abbrev SV : Type := (Int → Int) → Option Int
def binV (o : Int) (u w : SV) : SV := fun F => (u F).bind (fun a => (w F).bind (fun b => if (o = 23 ∧ b = 0) ∨ rckV o a b < -1000000000 ∨ 1000000000 < rckV o a b then none else some (rckV o a b)))
def notV (u : SV) : SV := fun F => (u F).map (fun x => 1 - x)
def jnV (o : Int) (u w : SV) : SV := fun F => (u F).bind (fun a => if a = (if o = 28 then 0 else 1) then some a else w F)
theorem notV2 (u : SV) : notV (notV u) = u := by
  funext F
  unfold notV
  rw [Option.map_map]
  cases u F with
  | none => rfl
  | some x => show some (1 - (1 - x)) = some x; congr 1; omega
def z01 (u : SV) : Prop := ∀ F, ∀ x, u F = some x → x = 0 ∨ x = 1
theorem z01_bin {o : Int} {u w : SV} (ho : 24 ≤ o ∧ o < 27) : z01 (binV o u w) := by
  intro F x h
  unfold binV at h
  cases ha : u F with
  | none => rw [ha] at h; cases h
  | some a =>
    rw [ha] at h
    cases hb : w F with
    | none => rw [hb] at h; cases h
    | some b =>
      rw [hb] at h
      simp only [Option.bind_some] at h
      split at h
      · cases h
      · have := Option.some.inj h
        rw [← this]
        unfold rckV
        simp only [show o ≠ 20 by omega, show o ≠ 21 by omega, show o ≠ 22 by omega, show o ≠ 23 by omega, if_false]
        split
        · split
          · exact Or.inl rfl
          · exact Or.inr rfl
        · split
          · split
            · exact Or.inl rfl
            · exact Or.inr rfl
          · split
            · exact Or.inl rfl
            · exact Or.inr rfl
theorem z01_not {u : SV} (h : z01 u) : z01 (notV u) := by
  intro F x e
  unfold notV at e
  cases ha : u F with
  | none => rw [ha] at e; cases e
  | some a =>
    rw [ha] at e
    have e' : 1 - a = x := Option.some.inj e
    rcases h F a ha with q | q <;> omega
theorem z01_jn {o : Int} {u w : SV} (hu : z01 u) (hw : z01 w) : z01 (jnV o u w) := by
  intro F x e
  unfold jnV at e
  cases ha : u F with
  | none => rw [ha] at e; cases e
  | some a =>
    rw [ha] at e
    simp only [Option.bind_some] at e
    by_cases q : a = (if o = 28 then 0 else 1)
    · rw [if_pos q] at e
      have := Option.some.inj e
      rw [← this]; exact hu F a ha
    · rw [if_neg q] at e
      exact hw F x e
section FRG
variable {op ar op' ar' F : Int → Int} {i j k j' : Int} {D D' D1 D2 : Nat} {u v w : SV}
theorem goM_mono (hj : j ≤ j') (hD : D ≤ D') : ∀ (m : Nat) (k : Int) (S : List Int) (res : Option (Int × List Int)), goM op ar F j D m k S res → goM op ar F j' D' m k S res
  | 0, k, S, res, h => ⟨h.1, by have := h.2; omega⟩
  | m + 1, k, S, res, h => by
    obtain ⟨h1, h2, h3, h4, h5, h6⟩ := h
    refine ⟨h1, by omega, by omega, fun q => by have := h4 q; omega, h5, ?_⟩
    cases hs : stp op ar F k S with
    | none => rw [hs] at h6; exact h6
    | some q => rw [hs] at h6; exact ⟨h6.1, goM_mono hj hD m q.1 q.2 res h6.2⟩
theorem goM_app {m2 : Nat} {k' : Int} {S' : List Int} {res : Option (Int × List Int)} : ∀ (m1 : Nat) (k : Int) (S : List Int), goM op ar F j D m1 k S (some (k', S')) → goM op ar F j D m2 k' S' res → ∃ m, goM op ar F j D m k S res
  | 0, k, S, h, h2 => by
    have := Option.some.inj h.1
    have e1 : k' = k := congrArg Prod.fst this
    have e2 : S' = S := congrArg Prod.snd this
    subst e1 e2
    exact ⟨m2, h2⟩
  | m + 1, k, S, h, h2 => by
    obtain ⟨a1, a2, a3, a4, a5, a6⟩ := h
    cases hs : stp op ar F k S with
    | none => rw [hs] at a6; cases a6
    | some q' =>
      rw [hs] at a6
      obtain ⟨m', hm⟩ := goM_app m q'.1 q'.2 a6.2 h2
      exact ⟨m' + 1, a1, a2, a3, a4, a5, by rw [hs]; exact ⟨a6.1, hm⟩⟩
theorem goM_cg {F : Int → Int} : ∀ (m : Nat) (k : Int) (S : List Int) (res : Option (Int × List Int)), i ≤ k → (∀ k, i ≤ k → k < j → op' k = op k ∧ ar' k = ar k) → goM op ar F j D m k S res → goM op' ar' F j D m k S res
  | 0, k, S, res, _, _, h => h
  | m + 1, k, S, res, hk, he, h => by
    obtain ⟨h1, h2, h3, h4, h5, h6⟩ := h
    obtain ⟨e1, e2⟩ := he k hk h2
    have es : stp op' ar' F k S = stp op ar F k S := by unfold stp; rw [e1, e2]
    refine ⟨h1, h2, h3, by rw [e1]; exact h4, by unfold okS at h5 ⊢; rw [e1, e2]; exact h5, ?_⟩
    rw [es]
    cases hs : stp op ar F k S with
    | none => rw [hs] at h6; exact h6
    | some q => rw [hs] at h6; exact ⟨h6.1, goM_cg m q.1 q.2 res (by omega) he h6.2⟩
theorem Frg.cg (h : Frg op ar i j D v) (he : ∀ k, i ≤ k → k < j → op' k = op k ∧ ar' k = ar k) : Frg op' ar' i j D v := by
  intro F hF S hS
  obtain ⟨m, hm, hs⟩ := h F hF S hS
  exact ⟨m, goM_cg m i S _ (Int.le_refl _) he hm, hs⟩
theorem Frg.mono (h : Frg op ar i j D v) (hD : D ≤ D') : Frg op ar i j D' v := by
  intro F hF S hS
  obtain ⟨m, hm, hs⟩ := h F hF S hS
  exact ⟨m, goM_mono (Int.le_refl _) (by omega) m i S _ hm, hs⟩
/-- one step at the end -/
theorem goM_one {S : List Int} {q : Int × List Int} (h0 : 0 ≤ k) (h1 : k < j) (h2 : S.length ≤ D) (h3 : op k < 20 → S.length < D) (h4 : okS op ar k S) (h5 : stp op ar F k S = some q) (h6 : k < q.1) (h7 : q.1 ≤ j) : goM op ar F j D 1 k S (some q) := ⟨h0, h1, h2, h3, h4, by rw [h5]; exact ⟨h6, rfl, h7⟩⟩
theorem goM_brk {S : List Int} (h0 : 0 ≤ k) (h1 : k < j) (h2 : S.length ≤ D) (h3 : op k < 20 → S.length < D) (h4 : okS op ar k S) (h5 : stp op ar F k S = none) : goM op ar F j D 1 k S none := ⟨h0, h1, h2, h3, h4, by rw [h5]⟩
theorem Frg_leaf (h0 : 0 ≤ k) (ho : 0 ≤ op k ∧ op k < 8) (ha : op k = 0 → 0 ≤ ar k ∧ ar k ≤ 1000) : Frg op ar k (k + 1) 1 (fun F => some (if op k = 0 then ar k else F (op k))) := by
  intro F hF S hS
  refine ⟨1, goM_one h0 (by omega) (by omega) (fun _ => by omega) (Or.inl ⟨ho.1, ho.2, ha⟩) ?_ (by show k < k + 1; omega) (by show k + 1 ≤ k + 1; omega), fun x hx => ?_⟩
  · unfold stp; rw [if_pos (by omega)]
  · have := Option.some.inj hx
    rw [← this]
    unfold small
    split
    · rename_i q; have := ha q; omega
    · have := hF (op k) (by omega) ho.2; omega
theorem smallL_cons {x : Int} {S : List Int} (hx : small x) (hS : smallL S) : smallL (x :: S) := fun y hy => by
  rcases List.mem_cons.mp hy with e | e
  · rw [e]; exact hx
  · exact hS y e
theorem Frg_bin (h0 : 0 ≤ i) (hik : i ≤ k) (hkj : k ≤ j) (hD1 : 1 ≤ D1) (hD2 : 1 ≤ D2) (hu : Frg op ar i k D1 u) (hw : Frg op ar k j D2 w) (ho : 20 ≤ op j ∧ op j < 27) : Frg op ar i (j + 1) (D1 + D2) (binV (op j) u w) := by
  intro F hF S hS
  obtain ⟨m1, g1, s1⟩ := hu F hF S hS
  unfold binV
  cases ha : u F with
  | none =>
    rw [ha] at g1
    exact ⟨m1, goM_mono (by omega) (by omega) m1 i S _ g1, fun x hx => by cases hx⟩
  | some a =>
    rw [ha] at g1
    simp only [Option.map_some] at g1
    have sa := s1 a ha
    obtain ⟨m2, g2, s2⟩ := hw F hF (a :: S) (smallL_cons sa hS)
    have g1' := goM_mono (j' := j + 1) (D' := S.length + (D1 + D2)) (by omega) (by omega) m1 i S _ g1
    cases hb : w F with
    | none =>
      rw [hb] at g2
      have g2' := goM_mono (j' := j + 1) (D' := S.length + (D1 + D2)) (by omega) (by simp only [List.length_cons]; omega) m2 k _ _ g2
      obtain ⟨m, hm⟩ := goM_app m1 i S g1' g2'
      exact ⟨m, hm, fun x hx => by cases hx⟩
    | some b =>
      rw [hb] at g2
      simp only [Option.map_some] at g2
      have sb := s2 b hb
      have g2' := goM_mono (j' := j + 1) (D' := S.length + (D1 + D2)) (by omega) (by simp only [List.length_cons]; omega) m2 k _ _ g2
      obtain ⟨m, hm⟩ := goM_app m1 i S g1' g2'
      simp only [Option.bind_some]
      have hok : okS op ar j (b :: a :: S) := Or.inr (Or.inl ⟨ho.1, ho.2, by simp⟩)
      have hst : stp op ar F j (b :: a :: S) = if (op j = 23 ∧ b = 0) ∨ rckV (op j) a b < -1000000000 ∨ 1000000000 < rckV (op j) a b then none else some (j + 1, rckV (op j) a b :: S) := by
        unfold stp; rw [if_neg (by omega), if_pos (by omega)]
      by_cases q : (op j = 23 ∧ b = 0) ∨ rckV (op j) a b < -1000000000 ∨ 1000000000 < rckV (op j) a b
      · rw [if_pos q] at hst ⊢
        obtain ⟨m', hm'⟩ := goM_app m i S hm (goM_brk (by show 0 ≤ j; omega) (by show j < j + 1; omega) (by simp only [List.length_cons]; omega) (fun y => by omega) hok hst)
        exact ⟨m', hm', fun x hx => by cases hx⟩
      · rw [if_neg q] at hst ⊢
        obtain ⟨m', hm'⟩ := goM_app m i S hm (goM_one (by show 0 ≤ j; omega) (by show j < j + 1; omega) (by simp only [List.length_cons]; omega) (fun y => by omega) hok hst (by show j < j + 1; omega) (by show j + 1 ≤ j + 1; omega))
        refine ⟨m', hm', fun x hx => ?_⟩
        have := Option.some.inj hx
        rw [← this]
        unfold small
        omega
theorem Frg_not (h0 : 0 ≤ i) (hij : i ≤ j) (hD : 1 ≤ D) (hu : Frg op ar i j D u) (hz : z01 u) (ho : op j = 27) : Frg op ar i (j + 1) D (notV u) := by
  intro F hF S hS
  obtain ⟨m1, g1, s1⟩ := hu F hF S hS
  unfold notV
  cases ha : u F with
  | none =>
    rw [ha] at g1
    exact ⟨m1, goM_mono (by omega) (by omega) m1 i S _ g1, fun x hx => by cases hx⟩
  | some a =>
    rw [ha] at g1
    simp only [Option.map_some] at g1
    have za := hz F a ha
    have g1' := goM_mono (j' := j + 1) (D' := S.length + D) (by omega) (by omega) m1 i S _ g1
    have hst : stp op ar F j (a :: S) = some (j + 1, (1 - a) :: S) := by unfold stp; rw [if_neg (by omega), if_neg (by omega), if_pos ho]
    obtain ⟨m, hm⟩ := goM_app m1 i S g1' (goM_one (by show 0 ≤ j; omega) (by show j < j + 1; omega) (by simp only [List.length_cons]; omega) (fun y => by omega) (Or.inr (Or.inr ⟨by omega, by omega, a, S, rfl, za⟩)) hst (by show j < j + 1; omega) (by show j + 1 ≤ j + 1; omega))
    refine ⟨m, hm, fun x hx => ?_⟩
    have := Option.some.inj hx
    rw [← this]
    unfold small
    rcases za with e | e <;> rw [e] <;> decide
theorem Frg_jn (h0 : 0 ≤ i) (hik : i ≤ k) (hkj : k + 1 ≤ j) (hD1 : 1 ≤ D1) (hu : Frg op ar i k D1 u) (hz : z01 u) (hw : Frg op ar (k + 1) j D2 w) (ho : op k = 28 ∨ op k = 29) (ha : ar k = j) : Frg op ar i j (D1 + D2) (jnV (op k) u w) := by
  intro F hF S hS
  obtain ⟨m1, g1, s1⟩ := hu F hF S hS
  unfold jnV
  cases hq : u F with
  | none =>
    rw [hq] at g1
    exact ⟨m1, goM_mono (by omega) (by omega) m1 i S _ g1, fun x hx => by cases hx⟩
  | some a =>
    rw [hq] at g1
    simp only [Option.map_some] at g1
    have za := hz F a hq
    have sa := s1 a hq
    have g1' := goM_mono (j' := j) (D' := S.length + (D1 + D2)) (by omega) (by omega) m1 i S _ g1
    simp only [Option.bind_some]
    have hok : okS op ar k (a :: S) := Or.inr (Or.inr ⟨by omega, by omega, a, S, rfl, za⟩)
    have hst : stp op ar F k (a :: S) = if a = (if op k = 28 then 0 else 1) then some (ar k, a :: S) else some (k + 1, S) := by
      unfold stp; rw [if_neg (by omega), if_neg (by omega), if_neg (by omega)]
    by_cases c : a = (if op k = 28 then 0 else 1)
    · rw [if_pos c] at hst ⊢
      rw [ha] at hst
      obtain ⟨m, hm⟩ := goM_app m1 i S g1' (goM_one (by show 0 ≤ k; omega) (by show k < j; omega) (by simp only [List.length_cons]; omega) (fun y => by omega) hok hst (by show k < j; omega) (by show j ≤ j; omega))
      exact ⟨m, hm, fun x hx => by have := Option.some.inj hx; rw [← this]; exact sa⟩
    · rw [if_neg c] at hst ⊢
      obtain ⟨m, hm⟩ := goM_app m1 i S g1' (goM_one (by show 0 ≤ k; omega) (by show k < j; omega) (by simp only [List.length_cons]; omega) (fun y => by omega) hok hst (by show k < k + 1; omega) (by show k + 1 ≤ j; omega))
      obtain ⟨m2, g2, s2⟩ := hw F hF S hS
      obtain ⟨m3, hm3⟩ := goM_app m i S hm (goM_mono (j' := j) (D' := S.length + (D1 + D2)) (Int.le_refl _) (by omega) m2 _ _ _ g2)
      exact ⟨m3, hm3, s2⟩
end FRG
