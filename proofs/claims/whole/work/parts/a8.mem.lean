/-! ===== cells made one after the other ===== -/
abbrev Cel : Type := Nat × Int × (Int → Int)
def dCe : Cel := (0, 0, fun _ => 0)
/-- M is M0 below n, and the cells l from n on -/
def MEM (n : Int) (M0 : MM) (l : List Cel) (M : MM) : Prop := (0 ≤ n ∧ mN M = n + l.length) ∧ (∀ a, a < n → mT M a = mT M0 a ∧ ∀ j, rd M a j = rd M0 a j) ∧ ∀ i : Nat, i < l.length → mT M (n + i) = ((l.getD i dCe).1, (l.getD i dCe).2.1) ∧ ∀ j, rd M (n + i) j = (l.getD i dCe).2.2 j
def setc : List Cel → Nat → Int → Int → List Cel
  | [], _, _, _ => []
  | c :: l, 0, j, v => (c.1, c.2.1, upF c.2.2 j v) :: l
  | c :: l, i + 1, j, v => c :: setc l i j v
theorem setc_len : ∀ (l : List Cel) (i : Nat) (j v : Int), (setc l i j v).length = l.length
  | [], _, _, _ => rfl
  | c :: l, 0, j, v => rfl
  | c :: l, i + 1, j, v => by simp [setc, setc_len l i j v]
theorem setc_get : ∀ (l : List Cel) (i : Nat) (j v : Int) (k : Nat), k < l.length → (setc l i j v).getD k dCe = if k = i then ((l.getD k dCe).1, (l.getD k dCe).2.1, upF (l.getD k dCe).2.2 j v) else l.getD k dCe
  | [], _, _, _, k, h => by simp at h
  | c :: l, 0, j, v, 0, h => rfl
  | c :: l, 0, j, v, k + 1, h => by rw [if_neg (by omega)]; rfl
  | c :: l, i + 1, j, v, 0, h => by rw [if_neg (by omega)]; rfl
  | c :: l, i + 1, j, v, k + 1, h => by
    have g := setc_get l i j v k (by simpa using h)
    show (setc l i j v).getD k dCe = _
    rw [g]
    by_cases w : k = i
    · rw [if_pos w, if_pos (by omega)]; rfl
    · rw [if_neg w, if_neg (by omega)]; rfl
section MEM
variable {n : Int} {M0 M M' : MM} {l l' : List Cel}
theorem MEM.al {kd : Nat} {len : Int} {f : Int → Int} (h : MEM n M0 l M) (e : M' = al M kd len f) (hl : l' = l ++ [(kd, len, f)]) : MEM n M0 l' M' := by
  subst e hl
  have hN := h.1.2
  have n0 := h.1.1
  refine ⟨⟨n0, by rw [mN_al, hN]; simp; omega⟩, fun a ha => ⟨by rw [mT_al, if_neg (by omega)]; exact (h.2.1 a ha).1, fun j => by rw [rd_al, if_neg (by omega)]; exact (h.2.1 a ha).2 j⟩, fun i hi => ?_⟩
  simp only [List.length_append, List.length_cons, List.length_nil] at hi
  by_cases w : i = l.length
  · have eg : (l ++ [(kd, len, f)]).getD i dCe = (kd, len, f) := by rw [w]; simp
    rw [eg, mT_al, if_pos (by omega)]
    exact ⟨rfl, fun j => by rw [rd_al, if_pos (by omega)]⟩
  · have eg : (l ++ [(kd, len, f)]).getD i dCe = l.getD i dCe := by rw [List.getD_eq_getElem?_getD, List.getD_eq_getElem?_getD, List.getElem?_append_left (by omega)]
    rw [eg, mT_al, if_neg (by omega)]
    exact ⟨(h.2.2 i (by omega)).1, fun j => by rw [rd_al, if_neg (by omega)]; exact (h.2.2 i (by omega)).2 j⟩
theorem MEM.wr {a j v : Int} (i : Nat) (h : MEM n M0 l M) (e : M' = wr M a j v) (ha : a = n + i) (hl : l' = setc l i j v) : MEM n M0 l' M' := by
  subst e hl ha
  have hN := h.1.2
  refine ⟨⟨h.1.1, by rw [mN_wr, setc_len]; exact hN⟩, fun a ha => ⟨by rw [mT_wr]; exact (h.2.1 a ha).1, fun j' => by rw [rd_wr, if_neg (by omega)]; exact (h.2.1 a ha).2 j'⟩, fun k hk => ?_⟩
  rw [setc_len] at hk
  rw [setc_get l i j v k hk, mT_wr]
  have g := h.2.2 k hk
  by_cases w : k = i
  · rw [if_pos w]
    refine ⟨g.1, fun j' => ?_⟩
    rw [rd_wr]
    show _ = upF _ j v j'
    unfold upF
    by_cases z : j' = j
    · rw [if_pos ⟨by rw [w], z⟩, if_pos z]
    · rw [if_neg (fun y => z y.2), if_neg z]; exact g.2 j'
  · rw [if_neg w]
    exact ⟨g.1, fun j' => by rw [rd_wr, if_neg (by omega)]; exact g.2 j'⟩
theorem MEM.o (i : Nat) {a : Int} {kd : Nat} (h : MEM n M0 l M) (ha : a = n + i) (hi : i < l.length) (hk : (l.getD i dCe).1 = kd) : okO M a kd := by
  subst ha
  have := h.1.1
  have := h.1.2
  exact ⟨by omega, by omega, by rw [(h.2.2 i hi).1]; exact hk⟩
theorem MEM.a (i : Nat) {a j : Int} {kd : Nat} (h : MEM n M0 l M) (ha : a = n + i) (hi : i < l.length) (hk : (l.getD i dCe).1 = kd) (j0 : 0 ≤ j) (j1 : j < (l.getD i dCe).2.1) : okA M a kd j := by
  have g := h.o i ha hi hk
  subst ha
  exact ⟨g.1, g.2.1, g.2.2, j0, by rw [(h.2.2 i hi).1]; exact j1⟩
theorem MEM.r (i : Nat) {a j : Int} (h : MEM n M0 l M) (ha : a = n + i) (hi : i < l.length) : rd M a j = (l.getD i dCe).2.2 j := by rw [ha]; exact (h.2.2 i hi).2 j
/-- a part made by a callee -/
theorem MEM.app {n' : Int} {lc : List Cel} (h : MEM n M0 l M) (hn : n' = n + l.length) (g : MEM n' M lc M') (hl : l' = l ++ lc) : MEM n M0 l' M' := by
  subst hl hn
  have hN := h.1.2
  have n0 := h.1.1
  refine ⟨⟨n0, by rw [g.1.2, List.length_append]; omega⟩, fun a ha => ⟨by rw [(g.2.1 a (by omega)).1]; exact (h.2.1 a ha).1, fun j => by rw [(g.2.1 a (by omega)).2 j]; exact (h.2.1 a ha).2 j⟩, fun i hi => ?_⟩
  rw [List.length_append] at hi
  by_cases w : i < l.length
  · have eg : (l ++ lc).getD i dCe = l.getD i dCe := by rw [List.getD_eq_getElem?_getD, List.getD_eq_getElem?_getD, List.getElem?_append_left w]
    rw [eg, (g.2.1 (n + i) (by omega)).1]
    exact ⟨(h.2.2 i w).1, fun j => by rw [(g.2.1 (n + i) (by omega)).2 j]; exact (h.2.2 i w).2 j⟩
  · have eg : (l ++ lc).getD i dCe = lc.getD (i - l.length) dCe := by rw [List.getD_eq_getElem?_getD, List.getD_eq_getElem?_getD, List.getElem?_append_right (by omega)]
    have k := g.2.2 (i - l.length) (by omega)
    rw [show n + (l.length : Int) + ((i - l.length : Nat) : Int) = n + i by omega] at k
    rw [eg]
    exact k
theorem MEM.nil (h0 : 0 ≤ mN M) : MEM (mN M) M [] M := ⟨⟨h0, by simp⟩, fun a _ => ⟨rfl, fun _ => rfl⟩, fun i hi => absurd hi (Nat.not_lt_zero _)⟩
end MEM
