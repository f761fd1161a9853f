/-! ===== a small calculus over the machine: values are plain integers, the heap is a function ===== -/
def lw_g : List Cond := lw_tbl.filter goodWord
theorem lw_in {w : Cond} (h : w ∈ lw_tbl) (hg : goodWord w = true) : w ∈ lw_g := List.mem_filter.mpr ⟨h, hg⟩
theorem lw_gg : ∀ w ∈ lw_g, w ∈ lw_g ∧ ((w.onTables && w.keeps) = true ∨ ∃ ty, w = .arrayClass ty) := fun w h => ⟨h, good_of_word (List.mem_filter.mp h).2⟩
/-- a value: an int, a long, a reference (-1: null), or nothing -/
abbrev PV : Type := Int ⊕ (Int ⊕ (Int ⊕ Unit))
abbrev vI (a : Int) : PV := Sum.inl a
abbrev vL (a : Int) : PV := Sum.inr (Sum.inl a)
abbrev vA (a : Int) : PV := Sum.inr (Sum.inr (Sum.inl a))
abbrev vU : PV := Sum.inr (Sum.inr (Sum.inr ()))
/-- base address, special addresses, classes, slots, array classes -/
abbrev GG : Type := Nat × (Nat → Nat) × (Nat → ClassId) × (Nat → Nat → Nat) × (Nat → ClassId) × Nat × (Nat → Int)
def gB (G : GG) : Nat := G.1
def gS (G : GG) : Nat → Nat := G.2.1
def gC (G : GG) : Nat → ClassId := G.2.2.1
def gI (G : GG) : Nat → Nat → Nat := G.2.2.2.1
def gA (G : GG) : Nat → ClassId := G.2.2.2.2.1
def gL (G : GG) : Nat := G.2.2.2.2.2.1
def gX (G : GG) : Nat → Int := G.2.2.2.2.2.2
def gR (G : GG) : Nat → Prop := fun q => gB G ≤ q
def gad (G : GG) (r : Int) : Nat := if r < 0 then gS G (-r).toNat else gB G + r.toNat
def rfV (G : GG) (r : Int) : Value := if r = -1 then .null else .ref (gad G r)
def tV (G : GG) : PV → Value
  | Sum.inl a => .int (Int32.ofInt a)
  | Sum.inr (Sum.inl a) => .long (Int64.ofInt a)
  | Sum.inr (Sum.inr (Sum.inl r)) => rfV G r
  | Sum.inr (Sum.inr (Sum.inr _)) => .null
def oV (G : GG) : PV → Option Value
  | Sum.inr (Sum.inr (Sum.inr _)) => none
  | x => some (tV G x)
def isU : PV → Bool
  | Sum.inr (Sum.inr (Sum.inr _)) => true
  | _ => false
def isL : PV → Bool
  | Sum.inr (Sum.inl _) => true
  | _ => false
theorem tV_cat (G : GG) (x : PV) : (tV G x).category = if isL x then 2 else 1 := by
  rcases x with a | a | a | a
  · rfl
  · rfl
  · simp only [tV, rfV, isL]
    split <;> rfl
  · rfl
/-- locals -/
def prs (G : GG) : Nat → List PV → List (Nat × Value)
  | _, [] => []
  | i, x :: xs => if isU x then prs G (i + 1) xs else (i, tV G x) :: prs G (i + 1) xs
def LV (G : GG) (ls : Array Slot) (n : Nat) (xs : List PV) : Prop := lv_has ls n (prs G 0 xs)
theorem prs_mem (G : GG) : ∀ (xs : List PV) (i k : Nat) (x : PV), xs[i]? = some x → isU x = false → (k + i, tV G x) ∈ prs G k xs
  | [], i, k, x, h, _ => by simp at h
  | y :: xs, 0, k, x, h, hu => by
    simp only [List.getElem?_cons_zero, Option.some.injEq] at h
    subst h
    simp [prs, hu]
  | y :: xs, i + 1, k, x, h, hu => by
    rw [List.getElem?_cons_succ] at h
    have h2 := prs_mem G xs i (k + 1) x h hu
    rw [show k + (i + 1) = k + 1 + i by omega]
    simp only [prs]
    split
    · exact h2
    · exact List.mem_cons_of_mem _ h2
theorem LV.at {G : GG} {ls : Array Slot} {n : Nat} {xs : List PV} (h : LV G ls n xs) {i : Nat} {x : PV} (hx : xs[i]? = some x) (hu : isU x = false) : ls[i]? = some (.val (tV G x)) := by
  have h1 := prs_mem G xs i 0 x hx hu
  rw [Nat.zero_add] at h1
  exact h.2.2 _ h1
theorem LV.sub {G : GG} {ls : Array Slot} {n : Nat} {xs : List PV} {lv : List (Nat × Value)} (h : lv_has ls n lv) (hs : ∀ q ∈ prs G 0 xs, q ∈ lv) : LV G ls n xs := ⟨h.1, h.2.1, fun q hq => h.2.2 q (hs q hq)⟩
def kL (x : PV) : PV := if isL x then vU else x
def stx : List PV → Nat → PV → List PV
  | [], _, _ => []
  | _ :: xs, 0, v => v :: xs
  | x :: xs, 1, v => kL x :: stx xs 0 v
  | x :: xs, i + 2, v => x :: stx xs (i + 1) v
theorem prs_ge (G : GG) : ∀ (xs : List PV) (k : Nat) (q : Nat × Value), q ∈ prs G k xs → k ≤ q.1
  | [], _, q, h => by simp [prs] at h
  | x :: xs, k, q, h => by
    simp only [prs] at h
    split at h
    · have := prs_ge G xs (k + 1) q h; omega
    · rcases List.mem_cons.mp h with rfl | h
      · exact Nat.le_refl _
      · have := prs_ge G xs (k + 1) q h; omega
theorem prs_stx (G : GG) : ∀ (xs : List PV) (i k : Nat) (v : PV) (q : Nat × Value), q ∈ prs G k (stx xs i v) → q = (k + i, tV G v) ∨ (q ∈ prs G k xs ∧ q.1 ≠ k + i ∧ ¬ (q.1 + 1 = k + i ∧ q.2.category = 2))
  | [], i, k, v, q, h => by simp [stx, prs] at h
  | x :: xs, 0, k, v, q, h => by
    simp only [stx, prs] at h
    have key : q ∈ prs G (k + 1) xs → q ∈ prs G k (x :: xs) ∧ q.1 ≠ k + 0 ∧ ¬ (q.1 + 1 = k + 0 ∧ q.2.category = 2) := by
      intro h1
      have := prs_ge G xs (k + 1) q h1
      refine ⟨?_, by omega, by omega⟩
      simp only [prs]
      split
      · exact h1
      · exact List.mem_cons_of_mem _ h1
    split at h
    · exact Or.inr (key h)
    · rcases List.mem_cons.mp h with rfl | h
      · exact Or.inl rfl
      · exact Or.inr (key h)
  | x :: xs, 1, k, v, q, h => by
    have key : q ∈ prs G (k + 1) (stx xs 0 v) → q = (k + 1, tV G v) ∨ (q ∈ prs G k (x :: xs) ∧ q.1 ≠ k + 1 ∧ ¬ (q.1 + 1 = k + 1 ∧ q.2.category = 2)) := by
      intro h1
      rcases prs_stx G xs 0 (k + 1) v q h1 with h2 | ⟨h2, h3, h4⟩
      · exact Or.inl h2
      · have := prs_ge G xs (k + 1) q h2
        refine Or.inr ⟨?_, h3, by omega⟩
        simp only [prs]
        split
        · exact h2
        · exact List.mem_cons_of_mem _ h2
    simp only [stx, prs, kL] at h
    by_cases hL : isL x = true
    · simp only [hL, if_true, isU] at h
      exact key h
    · simp only [hL, Bool.false_eq_true, if_false] at h
      split at h
      · exact key h
      · rename_i hu
        rcases List.mem_cons.mp h with rfl | h
        · refine Or.inr ⟨?_, by simp, ?_⟩
          · simp [prs, hu]
          · rw [tV_cat]; simp [hL]
        · exact key h
  | x :: xs, i + 2, k, v, q, h => by
    have key : q ∈ prs G (k + 1) (stx xs (i + 1) v) → q = (k + (i + 2), tV G v) ∨ (q ∈ prs G k (x :: xs) ∧ q.1 ≠ k + (i + 2) ∧ ¬ (q.1 + 1 = k + (i + 2) ∧ q.2.category = 2)) := by
      intro h1
      rcases prs_stx G xs (i + 1) (k + 1) v q h1 with h2 | ⟨h2, h3, h4⟩
      · exact Or.inl (by rw [h2, show k + 1 + (i + 1) = k + (i + 2) by omega])
      · refine Or.inr ⟨?_, by omega, by omega⟩
        simp only [prs]
        split
        · exact h2
        · exact List.mem_cons_of_mem _ h2
    simp only [stx, prs] at h
    split at h
    · exact key h
    · rename_i hu
      rcases List.mem_cons.mp h with rfl | h
      · refine Or.inr ⟨by simp [prs, hu], by simp, by simp⟩
      · exact key h
/-- a value of one slot is stored -/
theorem LV.st1 {G : GG} {ls' : Array Slot} {n i : Nat} {xs : List PV} {v : PV} (h : lv_has ls' n ((i, tV G v) :: (prs G 0 xs).filter (fun q => !(q.1 == i) && !(q.1 + 1 == i && q.2.category == 2)))) : LV G ls' n (stx xs i v) := by
  refine LV.sub h fun q hq => ?_
  rcases prs_stx G xs i 0 v q hq with h1 | ⟨h1, h2, h3⟩
  · rw [h1, Nat.zero_add]; exact List.mem_cons_self
  · refine List.mem_cons_of_mem _ (List.mem_filter.mpr ⟨h1, ?_⟩)
    rw [Nat.zero_add] at h2 h3
    simp [h2]
    omega
/-- a value of two slots is stored -/
theorem LV.st2 {G : GG} {ls' : Array Slot} {n i : Nat} {xs : List PV} {v : PV} (h : lv_has ls' n ((i, tV G v) :: (prs G 0 xs).filter (fun q => !(q.1 == i) && (!(q.1 == i + 1) && !(q.1 + 1 == i && q.2.category == 2))))) : LV G ls' n (stx (stx xs (i + 1) vU) i v) := by
  refine LV.sub h fun q hq => ?_
  rcases prs_stx G _ i 0 v q hq with h1 | ⟨h1, h2, h3⟩
  · rw [h1, Nat.zero_add]; exact List.mem_cons_self
  · have h1' := h1
    rw [Nat.zero_add] at h2 h3
    rcases prs_stx G xs (i + 1) 0 vU q h1 with h4 | ⟨h4, h5, h6⟩
    · exfalso
      have hne : ∀ (xs : List PV) (j k : Nat) (w : Value), (k + j, w) ∉ prs G k (stx xs j vU) := by
        intro xs
        induction xs with
        | nil => intro j k w; simp [stx, prs]
        | cons x xs ih =>
          intro j k w hm
          match j with
          | 0 =>
            simp only [stx, prs, isU, if_true] at hm
            have := prs_ge G xs (k + 1) _ hm
            simp at this; omega
          | 1 =>
            simp only [stx, prs] at hm
            have := ih 0 (k + 1) w
            split at hm
            · exact this hm
            · rcases List.mem_cons.mp hm with e | hm
              · have := congrArg Prod.fst e; simp at this
              · exact this hm
          | j + 2 =>
            simp only [stx, prs] at hm
            have := ih (j + 1) (k + 1) w
            rw [show k + 1 + (j + 1) = k + (j + 2) by omega] at this
            split at hm
            · exact this hm
            · rcases List.mem_cons.mp hm with e | hm
              · have := congrArg Prod.fst e; simp at this
              · exact this hm
      rw [h4] at h1'
      exact hne xs (i + 1) 0 _ h1'
    · rw [Nat.zero_add] at h5 h6
      refine List.mem_cons_of_mem _ (List.mem_filter.mpr ⟨h4, ?_⟩)
      simp [h2, h5]
      omega
